/-! ===== a NoSuchElementException: its first link bears number 13 ===== -/
def nsPass7 : List Cond := Bundle.passSAtoms "java/util/NoSuchElementException" "java/lang/RuntimeException" 7 Bundle.six
abbrev nsB : ByteArray := prog_22_method_4_code
def nsPass : List Cond := Bundle.passSAtoms "java/util/NoSuchElementException" "java/lang/RuntimeException" 13 nsB
def nsL : List Cond := nsPass ++ (Bundle.ownAtoms RX8 171 "java/util/NoSuchElementException" ["java/lang/RuntimeException", "java/lang/Exception"]).filter (fun w => decide (w ∉ nsPass7))
theorem ns_0 : decode nsB 0 = .ok (.aload_n 0, 1) := by decide +kernel
theorem ns_1 : decode nsB 1 = .ok (.aload_n 1, 1) := by decide +kernel
theorem ns_2 : decode nsB 2 = .ok (.invokespecial 13, 3) := by decide +kernel
theorem ns_5 : decode nsB 5 = .ok (.return_, 1) := by decide +kernel
theorem ns_sub {l1 l2 : List Cond} (h : l1.all (fun w => decide (w ∈ l2)) = true) : ∀ w ∈ l1, w ∈ l2 := fun w hw => of_decide_eq_true (List.all_eq_true.mp h w hw)
theorem ns_thr : ∀ w ∈ Bundle.throwableAtoms, w ∈ nsL := ns_sub (by decide +kernel)
theorem ns_thrS : ∀ w ∈ Bundle.throwableSAtoms, w ∈ nsL := ns_sub (by decide +kernel)
theorem ns_chain : ∀ w ∈ Bundle.chainSAtoms "java/lang/RuntimeException" ["java/lang/Exception"], w ∈ nsL := ns_sub (by decide +kernel)
theorem ns_pass : ∀ w ∈ nsPass, w ∈ nsL := ns_sub (by decide +kernel)
section NSK
variable {p : Program} {l : Launch} {e : Env} {R : Room} {s : State} {m₀ : MethodId} {args : Array Value} {below : List Frame} {meth : Method} {c : Code} {W : State} {locs : List Loc} {cells slots : Nat}
set_option maxHeartbeats 4000000 in
set_option maxRecDepth 100000 in
theorem ns_ctor (X : Stand p l e R s m₀ args below meth c W locs cells slots) (hexec : p.tables.exec = Jvm.exec) (htr : e.platform.stackTraces = false)
    (hown : s.vm.findClass RX8 = some m₀.cls)
    (h : ∀ a ∈ nsL, a.before args s = true)
    (hlocs : ∀ x ∈ locs, ∀ cell, s.heap[x.base]? = some cell → cell.vm.isStatics = false)
    {a : Addr} {cX : ClassId} {kX : Class} (hfoundX : s.vm.findClass "java/util/NoSuchElementException" = some cX) (hkX : s.vm.classes[cX]? = some kX) (hcell : W.heap[a]? = some (freshCell cX kX)) (hnew : s.heap.size ≤ a)
    {msg : Value} (hmsg : msg.isRef = true)
    {g : JFrame} (hg : g.method = m₀) (hsize : g.locals.size = c.maxLocals) {rest : List Value} (hstack : g.stack = msg :: .ref a :: .ref a :: rest)
    (hd6 : decode c.code g.pc = .ok (.invokespecial 171, 3))
    (hRframes : 5 < R.frames) (hRlocals : 2 * g.monitorRoom + ((Value.ref a :: rest).map fun v => v.category).sum + (81) ≤ R.locals) :
    ∃ (V : State) (ce : Cell) (L : List Loc), Stand p l e R s m₀ args below meth c (V.setCell a ce) (locs ++ L) cells slots ∧ (∀ y ∈ L, y.base = a) ∧ a < V.heap.size ∧ ce.cls = cX ∧ ce.vm = .none ∧
      ∀ target, Steps p.tables e below ((V.setCell a ce).setTop { g with stack := .ref a :: rest, pc := g.pc + 3 }) target → Steps p.tables e below (W.setTop g) target := by
  have howns : e.platform.frameOwnsMonitors = true := by rw [X.admits.platform]
  have hfin : e.platform.finalization = false := by rw [X.admits.platform]
  have hpl : e.platform.magicAccessors = ({} : Platform).magicAccessors := by rw [X.admits.platform]
  have a' : ∀ x, x ∈ nsL → x.holds args s none s [] = true := fun x hx => h x hx
  obtain ⟨T, Z0, L, -, Y⟩ := ThrowableC.of_atoms (args := args) howns hfin hpl (fun x hx => h x (ns_thr x hx))
  obtain ⟨Z, M, LZ, LM, hnZ⟩ := Init0T.ofS_atoms (args := args) hpl L Y (fun x hx => h x (ns_thrS x hx))
  obtain ⟨P1, L1, hP1m, hs1⟩ := PassC.ofS_atoms (args := args) (s := s) hpl (X := "java/util/NoSuchElementException") (Y := "java/lang/RuntimeException") (by decide) (by decide) ns_0 ns_1 ns_2 ns_5 (fun x hx => h x (ns_pass x hx))
  obtain ⟨P2, Ps2, hlen2, L2, hL2, hP2m, hsup2, hpass2⟩ := Bundle.chainS (args := args) hpl hnZ ["java/lang/Exception"] "java/lang/RuntimeException" (by decide) (by decide) (fun x hx => h x (ns_chain x hx))
  have hlen : (P2 :: Ps2).length = 2 := by simp [hlen2]
  have hL : ∀ P, P ∈ P2 :: Ps2 → P.LinksS e.platform s := by
    intro Q hQ
    rcases List.mem_cons.mp hQ with rfl | hQ
    · exact L2
    · exact hL2 Q hQ
  have hfound : s.vm.findClass "java/util/NoSuchElementException" = some P1.m.cls := findClass_of_methodNamed hP1m
  cases Option.some.inj (hfoundX.symm.trans hfound)
  obtain ⟨c1, kX', hc1, hk, hord, -, -, hn6⟩ := Cond.instantiable_spec (a' (.instantiable "java/util/NoSuchElementException" 6) (by decide +kernel))
  cases Option.some.inj (hc1.symm.trans hfound)
  cases Option.some.inj (hkX.symm.trans hk)
  have hsel0 : selectMethod e.platform s.vm P1.m.cls T.fill0 = .method T.fill0 := by
    obtain ⟨c2, r2, m2, q1, q2, q3, q4, -⟩ := Cond.selects_spec (a' (.selects "java/util/NoSuchElementException" Bundle.tFill0 Bundle.tFill0) (by decide +kernel))
    cases Option.some.inj (q1.symm.trans hfound)
    cases Option.some.inj (q2.symm.trans (State.methodFound?_of_named Y.fill0 (by decide)))
    cases Option.some.inj (q3.symm.trans Y.fill0)
    rw [Launch.admits_selectMethod X.admits]; exact q4
  have hselF : selectMethod e.platform s.vm P1.m.cls T.fill = .method T.fill := by
    obtain ⟨c2, r2, m2, q1, q2, q3, q4, -⟩ := Cond.selects_spec (a' (.selects "java/util/NoSuchElementException" Bundle.tFill Bundle.tFill) (by decide +kernel))
    cases Option.some.inj (q1.symm.trans hfound)
    cases Option.some.inj (q2.symm.trans (State.methodFound?_of_named Y.fill (by decide)))
    cases Option.some.inj (q3.symm.trans Y.fill)
    rw [Launch.admits_selectMethod X.admits]; exact q4
  obtain ⟨cellS0, hcS0, hiss⟩ := Y.statics
  obtain ⟨u0, hu0⟩ := Cond.staticRefV Y.unassigned L.unassignedStatic L.statics hcS0 hiss (a' (.isRef (.static Bundle.tN "UNASSIGNED_STACK" Bundle.steD)) (by decide +kernel))
  obtain ⟨sen, hsen⟩ := Cond.staticRefV Y.sentinel L.sentinelStatic L.statics hcS0 hiss (a' (.isRef (.static Bundle.tN "SUPPRESSED_SENTINEL" Bundle.listD)) (by decide +kernel))
  obtain ⟨ci198, i198, fB, hk198, hg198, ha198, hsB, -, hnB, htB, hffB⟩ := Cond.ownField (t := .object "java/lang/Object") Y.found L.cls (by decide +kernel) (a' (.fieldLink Bundle.tN 198 Bundle.tN "backtrace" "Ljava/lang/Object;") (by decide +kernel)) (a' (.lays Bundle.tN Bundle.tN "backtrace" "Ljava/lang/Object;") (by decide +kernel)) e.platform hpl
  obtain ⟨cellS, hcS', heS, -, hkeep⟩ := X.same.2.2.2.2.2 T.aS cellS0 hcS0
  have hcellS : W.heap[T.aS]? = some cellS := hcS'
  have hout' : ∀ i, (⟨T.aS, i⟩ : Loc) ∉ locs := fun i hmem => by
    have := hlocs _ hmem cellS0 hcS0
    rw [hiss] at this; cases this
  have hknownS : cellS.vm ≠ .unknown := by
    rw [heS]; intro hu
    rw [show cellS0.vm = .unknown from hu] at hiss
    cases hiss
  have hneS : T.aS ≠ a := Nat.ne_of_lt (Nat.lt_of_lt_of_le (Array.getElem?_eq_some_iff.mp hcS0).1 hnew)
  obtain ⟨iM, hffM⟩ := Y.msg
  obtain ⟨tyC, dC, hdC, hdnC⟩ := Cond.laysAt hfound hk Y.cause (a' (.lays "java/util/NoSuchElementException" Bundle.tN "cause" "Ljava/lang/Throwable;") (by decide +kernel))
  obtain ⟨tyS, dS, hdS, hdnS⟩ := Cond.laysAt hfound hk Y.stack (a' (.lays "java/util/NoSuchElementException" Bundle.tN "stackTrace" Bundle.steD) (by decide +kernel))
  obtain ⟨tyP, dP, hdP, hdnP⟩ := Cond.laysAt hfound hk Y.supp (a' (.lays "java/util/NoSuchElementException" Bundle.tN "suppressedExceptions" Bundle.listD) (by decide +kernel))
  obtain ⟨tyM, dM, hdM, hdnM⟩ := Cond.laysAt hfound hk hffM (a' (.lays "java/util/NoSuchElementException" Bundle.tN "detailMessage" "Ljava/lang/String;") (by decide +kernel))
  obtain ⟨tyB, dB, hdB, hdnB⟩ := Cond.laysAt hfound hk hffB (a' (.lays "java/util/NoSuchElementException" Bundle.tN "backtrace" "Ljava/lang/Object;") (by decide +kernel))
  have bC := Cond.laysApart hdB hdC hdnB hdnC (by rw [hnB, Y.causeName]; decide)
  have bS := Cond.laysApart hdB hdS hdnB hdnS (by rw [hnB, Y.stackName]; decide)
  have bP := Cond.laysApart hdB hdP hdnB hdnP (by rw [hnB, Y.suppName]; decide)
  have hskip : SkipFacts T e.platform s (fun u => u) u0 ((preparedCellV T.toThrowableT (freshCell P1.m.cls kX) a u0 sen).withEntry W.cur) :=
    ⟨{ ci198 := ci198, i198 := i198, fBack := fB }, ⟨hk198, hg198, ha198, hsB⟩, by
      have := fresh_default (c := P1.m.cls) tyB
      rw [htB] at this
      simpa [preparedCellV, Cell.setSlot, Cell.withEntry, Array.getElem?_setIfInBounds, bC, bS, bP, bC.symm, bS.symm, bP.symm, defaultValue] using this, fun _ _ => rfl⟩
  obtain ⟨tm, methC, cdC, kC, vm₁, hnC, -, -, -, -, -, -, -, hW₁, st1⟩ := Steps.initColdS (tb := p.tables) (e := e) (below := below) (s := s) (U := W) X.here hexec X.warmed hpl hown (t := Bundle.initS "java/util/NoSuchElementException") rfl rfl (by decide)
    (a' (.methodLink RX8 171 (Bundle.initS "java/util/NoSuchElementException")) (by decide +kernel)) (h (.instanceMethod (Bundle.initS "java/util/NoSuchElementException")) (by decide +kernel)) (bytes := nsB) (maxL := 2) (h (.code (Bundle.initS "java/util/NoSuchElementException") nsB 2 none) (by decide +kernel))
    (f := g) hg (a := a) (msg := msg) (rest := .ref a :: rest) hstack hd6
  cases Option.some.inj (hnC.symm.trans hP1m)
  have X₁ := X.noted hW₁
  obtain ⟨vm₂, X₂, st2⟩ := X₁.ctorMessageOffV hexec (g := { g with stack := .ref a :: rest }) hg hsize T L Z LZ M LM (P1 :: P2 :: Ps2)
    (fun P hP => by rcases List.mem_cons.mp hP with rfl | hP; exact L1; exact hL P hP) ⟨Option.some.inj (hs1.symm.trans hP2m), hsup2, hpass2⟩ (u0 := u0) (sen := sen) (self := a) hmsg (cell := freshCell P1.m.cls kX) (cellS := cellS)
    hcell (fun _ => by simp) (by simp) rfl rfl hsel0 hselF hcellS hneS hknownS (by rw [hkeep _ (hout' _)]; exact hu0) (by rw [hkeep _ (hout' _)]; exact hsen)
    (Takes.of_laid hk hord tyC (by rw [Y.causeType]; rfl)) (Takes.of_laid hk hord tyS (by rw [Y.stackType]; exact fits_refV_array _ u0)) (Takes.of_laid hk hord tyP (by rw [Y.suppType]; exact fits_refV_object _ sen))
    (Takes.of_laid hk hord tyM (by rw [Y.msgType]; exact fits_refV_object _ ⟨msg, hmsg⟩)) Y.objLocals hskip htr [] hd6
    (by simp only [List.length_cons, hlen]; omega) (by simp only [List.length_cons, hlen]; exact hRlocals)
  have hlt : a < ((W.setVm vm₁).setVm vm₂).heap.size := (Array.getElem?_eq_some_iff.mp hcell).1
  refine ⟨(W.setVm vm₁).setVm vm₂, _, _, X₂, fun y hy => ?_, hlt, rfl, rfl, fun target hwalk => st1 _ (fun acts => ?_)⟩
  · simp only [List.mem_cons, List.not_mem_nil, or_false] at hy
    rcases hy with rfl | rfl | rfl | rfl | rfl <;> rfl
  · rw [doInvoke_state]
    exact st2 _ hwalk
end NSK
section NSM
variable {p : Program} {l : Launch} {e : Env} {R : Room} {s : State} {m : MethodId} {args : Array Value} {below : List Frame} {meth : Method} {c : Code} {H : Heap} {locs : List Loc} {cells slots : Nat} {Q : State → Prop} {ls : Array Slot} {rest : List Value}
theorem ns_back9 {T S : State} {R' : Room} {k n : Nat} (X : Stand p l e R s m args below meth c T locs cells slots) (Y : Stand p l e R' ((T.setVm s.vm).setFrames (.invoking m args :: below)) m args below meth c T [] 0 0) (Z : Stand p l e R' ((T.setVm s.vm).setFrames (.invoking m args :: below)) m args below meth c S [] k n) :
    Stand p l e R s m args below meth c S locs (cells + k) (slots + n) := by
  have hW0 : s.WarmedH ((T.setVm s.vm).setFrames (.invoking m args :: below)).vm := State.WarmedH.refl s
  refine { admits := X.admits, cas := X.cas, clock := X.clock, frames := X.frames, room := X.room, hears := X.hears, method := X.method, code := X.code, here := Z.here, tail := Z.tail, warmed := State.WarmedH.trans hW0 Z.warmed, limits := Z.limits.trans (Y.limits.symm.trans X.limits), bytes := Z.bytes.trans (Y.bytes.symm.trans X.bytes), same := ?_ }
  obtain ⟨e1, e2⟩ := Z.same
  rw [State.setFrames_setFrames] at e1
  have h2 : (T.setVm s.vm).sameButNew (S.setVm s.vm) [] k n := ⟨e1, e2⟩
  have h3 := X.same.trans h2
  rw [List.append_nil] at h3
  exact h3
set_option maxHeartbeats 4000000 in
set_option maxRecDepth 100000 in
theorem ns_make {cc : ByteArray} {pc : Nat} (hexec : p.tables.exec = Jvm.exec) (hb : c.code = cc) (hl : l.stackTraces = false) {text : String} {ik is sa : Nat} {A : Nat → Prop}
    (hown : s.vm.findClass RX8 = some m.cls)
    (hk : (Cond.classLink RX8 ik "java/util/NoSuchElementException").before args s = true) (hini : (Cond.initialized "java/util/NoSuchElementException").before args s = true) (hstr : vk_R RX8 is text sa s) (hat : ∀ w ∈ nsL.filter vx_no, w.before args s = true)
    (hgood : ∀ w ∈ Cond.classLink RX8 ik "java/util/NoSuchElementException" :: Cond.initialized "java/util/NoSuchElementException" :: nsL.filter vx_no, vx_ot w = true)
    (hU : vx_Zq Bundle.tN "UNASSIGNED_STACK" Bundle.steD A s s.heap) (hN : vx_Zq Bundle.tN "SUPPRESSED_SENTINEL" Bundle.listD A s s.heap) (hS : va_S A s.heap H locs) (hsize : ls.size = c.maxLocals)
    (d0 : decode cc pc = .ok (.new ik, 3)) (d3 : decode cc (pc + 3) = .ok (.dup, 1)) (d4 : decode cc (pc + 4) = .ok (.ldc is, 2)) (d6 : decode cc (pc + 6) = .ok (.invokespecial 171, 3))
    (hRframes : 5 < R.frames) (hRlocals : (rest.map fun v => v.category).sum + (82) ≤ R.locals) (hRcells : cells + 1 ≤ R.cells) (hRslots : slots + 6 ≤ R.slots)
    (kk : ∀ (q : Nat) (H1 : Heap) (ce : Cell), H.size ≤ H1.size → (∀ x : Nat, x < H.size → H1[x]? = H[x]?) → H1[q]? = some ce → ce.vm = .none → s.vm.findClass "java/util/NoSuchElementException" = some ce.cls → va_S A s.heap H1 locs → W p l e R s m args below meth c H1 locs (cells + 1) (slots + 6) Q (F0 m (pc + 9) ls (.ref q :: rest))) :
    W p l e R s m args below meth c H locs cells slots Q (F0 m pc ls rest) := by
  intro T hT X
  subst hT
  have htr : e.platform.stackTraces = false := (show e.platform.stackTraces = l.stackTraces by rw [X.admits.platform]).trans hl
  have Y := vx_rebase X (R' := { frames := R.frames, locals := R.locals, cells := 1, slots := 6 }) (Nat.le_refl _) (Nat.le_refl _) hRcells hRslots
  obtain ⟨s', hA'⟩ : ∃ z, z = (T.setVm s.vm).setFrames (.invoking m args :: below) := ⟨_, rfl⟩
  rw [← hA'] at Y
  have hvm : s'.vm = s.vm := by rw [hA']; rfl
  have hhp : s'.heap = T.heap := by rw [hA']; rfl
  have hW0 : s.WarmedH s'.vm := by rw [hvm]; exact State.WarmedH.refl s
  have hat' : ∀ w ∈ nsL.filter vx_no, w.before args s' = true := fun w hw => vx_ot_at hW0 hvm.symm (hgood w (List.mem_cons_of_mem _ (List.mem_cons_of_mem _ hw))) (hat w hw)
  have hk' : (Cond.classLink RX8 ik "java/util/NoSuchElementException").before args s' = true := vx_ot_at hW0 hvm.symm (hgood _ List.mem_cons_self) hk
  have hini' : (Cond.initialized "java/util/NoSuchElementException").before args s' = true := vx_ot_at hW0 hvm.symm (hgood _ (List.mem_cons_of_mem _ List.mem_cons_self)) hini
  have hU' : vx_Zq Bundle.tN "UNASSIGNED_STACK" Bundle.steD A s' s'.heap := by rw [hhp]; exact vx_Zq.moved hW0.alike (hU.kept hS.2.1)
  have hN' : vx_Zq Bundle.tN "SUPPRESSED_SENTINEL" Bundle.listD A s' s'.heap := by rw [hhp]; exact vx_Zq.moved hW0.alike (hN.kept hS.2.1)
  have h : ∀ w ∈ nsL, w.before args s' = true := vx_own hat' (vx_isRefq hU'.1) (vx_isRefq hN'.1) hU'.2.word hN'.2.word
  have hown' : s'.vm.findClass RX8 = some m.cls := by rw [hvm]; exact hown
  have hins : (Cond.instantiable "java/util/NoSuchElementException" 6).before args s' = true := h _ (by decide +kernel)
  obtain ⟨vm₁, cX, kX, hfX, hkX, -, -, X₁, st1⟩ := Y.newCold hexec (own := RX8) (C := "java/util/NoSuchElementException") (index := ik) (n := 6) hown' hk' hins hini'
    (g := F0 m pc ls rest) rfl (by rw [hb]; exact d0) (Nat.le_refl _) (Nat.le_refl _)
  generalize hT1 : (T.setVm vm₁).pushCell { cls := cX, slots := kX.instanceTypes.map defaultValue, vm := .none } = T1 at X₁ st1
  have hcat : (Value.ref T.heap.size).category = 1 := rfl
  have hcellA : T1.heap[T.heap.size]? = some (freshCell cX kX) := by rw [← hT1]; exact State.heap_pushCell_size _ _
  have d3' : decode c.code (pc + 3) = .ok (.dup, 1) := by rw [hb]; exact d3
  have d4' : decode c.code (pc + 4) = .ok (.ldc is, 2) := by rw [hb]; exact d4
  have hstr' : vk_R RX8 is text sa s' := vk_R.warm hW0 hstr
  obtain ⟨V, ce, L, Z, hL, hlt, hcl9, hvm9, st⟩ := ns_ctor X₁ hexec htr hown' h (fun x hx => nomatch hx) hfX hkX hcellA (by rw [hhp]; exact Nat.le_refl _) (msg := .ref sa) rfl
    (g := { method := m, pc := pc + 6, locals := ls, stack := .ref sa :: .ref T.heap.size :: .ref T.heap.size :: rest, locked := none }) rfl hsize (rest := rest) rfl
    (by rw [hb]; exact d6) hRframes (by simp only [List.map_cons, List.sum_cons, hcat]; omega)
  have Z0 := Stand.forget (locs := []) Z (fun y hy => by rw [hL y hy, hhp]; exact Nat.le_refl _)
  obtain ⟨f1, f2⟩ := vx_frame Z0.same
  rw [hhp] at f1 f2
  have hcid : s.vm.findClass "java/util/NoSuchElementException" = some ce.cls := by
    rw [hcl9, ← hvm]
    exact hfX
  have hh : (V.setCell T.heap.size ce).heap[T.heap.size]? = some ce := heapAt_setCell_self (s := V) ce hlt
  subst hA'
  have X5 := ns_back9 X Y Z0
  have X6 : Stand p l e R s m args below meth c (V.setCell T.heap.size ce) locs (cells + 1) (slots + 6) := { X5 with same := X5.same.mono (by omega) (by omega) }
  obtain ⟨t, a1, b1⟩ := kk T.heap.size (V.setCell T.heap.size ce).heap ce f1 (fun x hx => f2 x hx (fun z hz => nomatch hz)) hh hvm9 hcid ⟨Nat.le_trans hS.1 f1, fun q h1 h2 => (f2 q (Nat.lt_of_lt_of_le h1 hS.1) (fun z hz => nomatch hz)).trans (hS.2.1 q h1 h2), hS.2.2⟩ _ rfl X6
  refine ⟨t, st1 _ ?_, b1⟩
  show Steps p.tables e below (T1.setTop { method := m, pc := pc + 3, locals := ls, stack := .ref T.heap.size :: rest, locked := none }) _
  jvm_step X₁.here [X₁.here.top, hexec, d3', Value.category]
  exact X₁.ldcString hexec (own := RX8) (text := text) (index := is) (a := sa) hown' hstr'.1 hstr'.2
    (g := { method := m, pc := pc + 4, locals := ls, stack := .ref T.heap.size :: .ref T.heap.size :: rest, locked := none }) rfl d4' _ (st _ a1)
set_option maxHeartbeats 4000000 in
set_option maxRecDepth 100000 in
theorem ns_makeW {cc : ByteArray} {pc : Nat} (hexec : p.tables.exec = Jvm.exec) (hb : c.code = cc) (hl : l.stackTraces = false) {text : String} {ik is sa : Nat} {A : Nat → Prop}
    (hown : s.vm.findClass RX8 = some m.cls)
    (hk : (Cond.classLink RX8 ik "java/util/NoSuchElementException").before args s = true) (hini : (Cond.initialized "java/util/NoSuchElementException").before args s = true) (hstr : vk_R RX8 is text sa s) (hat : ∀ w ∈ nsL.filter vx_no, w.before args s = true)
    (hgood : ∀ w ∈ Cond.classLink RX8 ik "java/util/NoSuchElementException" :: Cond.initialized "java/util/NoSuchElementException" :: nsL.filter vx_no, vx_ot w = true)
    (hU : vx_Zq Bundle.tN "UNASSIGNED_STACK" Bundle.steD A s s.heap) (hN : vx_Zq Bundle.tN "SUPPRESSED_SENTINEL" Bundle.listD A s s.heap) (hS : va_S A s.heap H locs) (hsize : ls.size = c.maxLocals)
    (d0 : decode cc pc = .ok (.new ik, 3)) (d3 : decode cc (pc + 3) = .ok (.dup, 1)) (d4 : decode cc (pc + 4) = .ok (.ldc_w is, 3)) (d6 : decode cc (pc + 7) = .ok (.invokespecial 171, 3))
    (hRframes : 5 < R.frames) (hRlocals : (rest.map fun v => v.category).sum + (82) ≤ R.locals) (hRcells : cells + 1 ≤ R.cells) (hRslots : slots + 6 ≤ R.slots)
    (kk : ∀ (q : Nat) (H1 : Heap) (ce : Cell), H.size ≤ H1.size → (∀ x : Nat, x < H.size → H1[x]? = H[x]?) → H1[q]? = some ce → ce.vm = .none → s.vm.findClass "java/util/NoSuchElementException" = some ce.cls → va_S A s.heap H1 locs → W p l e R s m args below meth c H1 locs (cells + 1) (slots + 6) Q (F0 m (pc + 10) ls (.ref q :: rest))) :
    W p l e R s m args below meth c H locs cells slots Q (F0 m pc ls rest) := by
  intro T hT X
  subst hT
  have htr : e.platform.stackTraces = false := (show e.platform.stackTraces = l.stackTraces by rw [X.admits.platform]).trans hl
  have Y := vx_rebase X (R' := { frames := R.frames, locals := R.locals, cells := 1, slots := 6 }) (Nat.le_refl _) (Nat.le_refl _) hRcells hRslots
  obtain ⟨s', hA'⟩ : ∃ z, z = (T.setVm s.vm).setFrames (.invoking m args :: below) := ⟨_, rfl⟩
  rw [← hA'] at Y
  have hvm : s'.vm = s.vm := by rw [hA']; rfl
  have hhp : s'.heap = T.heap := by rw [hA']; rfl
  have hW0 : s.WarmedH s'.vm := by rw [hvm]; exact State.WarmedH.refl s
  have hat' : ∀ w ∈ nsL.filter vx_no, w.before args s' = true := fun w hw => vx_ot_at hW0 hvm.symm (hgood w (List.mem_cons_of_mem _ (List.mem_cons_of_mem _ hw))) (hat w hw)
  have hk' : (Cond.classLink RX8 ik "java/util/NoSuchElementException").before args s' = true := vx_ot_at hW0 hvm.symm (hgood _ List.mem_cons_self) hk
  have hini' : (Cond.initialized "java/util/NoSuchElementException").before args s' = true := vx_ot_at hW0 hvm.symm (hgood _ (List.mem_cons_of_mem _ List.mem_cons_self)) hini
  have hU' : vx_Zq Bundle.tN "UNASSIGNED_STACK" Bundle.steD A s' s'.heap := by rw [hhp]; exact vx_Zq.moved hW0.alike (hU.kept hS.2.1)
  have hN' : vx_Zq Bundle.tN "SUPPRESSED_SENTINEL" Bundle.listD A s' s'.heap := by rw [hhp]; exact vx_Zq.moved hW0.alike (hN.kept hS.2.1)
  have h : ∀ w ∈ nsL, w.before args s' = true := vx_own hat' (vx_isRefq hU'.1) (vx_isRefq hN'.1) hU'.2.word hN'.2.word
  have hown' : s'.vm.findClass RX8 = some m.cls := by rw [hvm]; exact hown
  have hins : (Cond.instantiable "java/util/NoSuchElementException" 6).before args s' = true := h _ (by decide +kernel)
  obtain ⟨vm₁, cX, kX, hfX, hkX, -, -, X₁, st1⟩ := Y.newCold hexec (own := RX8) (C := "java/util/NoSuchElementException") (index := ik) (n := 6) hown' hk' hins hini'
    (g := F0 m pc ls rest) rfl (by rw [hb]; exact d0) (Nat.le_refl _) (Nat.le_refl _)
  generalize hT1 : (T.setVm vm₁).pushCell { cls := cX, slots := kX.instanceTypes.map defaultValue, vm := .none } = T1 at X₁ st1
  have hcat : (Value.ref T.heap.size).category = 1 := rfl
  have hcellA : T1.heap[T.heap.size]? = some (freshCell cX kX) := by rw [← hT1]; exact State.heap_pushCell_size _ _
  have d3' : decode c.code (pc + 3) = .ok (.dup, 1) := by rw [hb]; exact d3
  have d4' : decode c.code (pc + 4) = .ok (.ldc_w is, 3) := by rw [hb]; exact d4
  have hstr' : vk_R RX8 is text sa s' := vk_R.warm hW0 hstr
  obtain ⟨V, ce, L, Z, hL, hlt, hcl9, hvm9, st⟩ := ns_ctor X₁ hexec htr hown' h (fun x hx => nomatch hx) hfX hkX hcellA (by rw [hhp]; exact Nat.le_refl _) (msg := .ref sa) rfl
    (g := { method := m, pc := pc + 7, locals := ls, stack := .ref sa :: .ref T.heap.size :: .ref T.heap.size :: rest, locked := none }) rfl hsize (rest := rest) rfl
    (by rw [hb]; exact d6) hRframes (by simp only [List.map_cons, List.sum_cons, hcat]; omega)
  have Z0 := Stand.forget (locs := []) Z (fun y hy => by rw [hL y hy, hhp]; exact Nat.le_refl _)
  obtain ⟨f1, f2⟩ := vx_frame Z0.same
  rw [hhp] at f1 f2
  have hcid : s.vm.findClass "java/util/NoSuchElementException" = some ce.cls := by
    rw [hcl9, ← hvm]
    exact hfX
  have hh : (V.setCell T.heap.size ce).heap[T.heap.size]? = some ce := heapAt_setCell_self (s := V) ce hlt
  subst hA'
  have X5 := ns_back9 X Y Z0
  have X6 : Stand p l e R s m args below meth c (V.setCell T.heap.size ce) locs (cells + 1) (slots + 6) := { X5 with same := X5.same.mono (by omega) (by omega) }
  obtain ⟨t, a1, b1⟩ := kk T.heap.size (V.setCell T.heap.size ce).heap ce f1 (fun x hx => f2 x hx (fun z hz => nomatch hz)) hh hvm9 hcid ⟨Nat.le_trans hS.1 f1, fun q h1 h2 => (f2 q (Nat.lt_of_lt_of_le h1 hS.1) (fun z hz => nomatch hz)).trans (hS.2.1 q h1 h2), hS.2.2⟩ _ rfl X6
  refine ⟨t, st1 _ ?_, b1⟩
  show Steps p.tables e below (T1.setTop { method := m, pc := pc + 3, locals := ls, stack := .ref T.heap.size :: rest, locked := none }) _
  jvm_step X₁.here [X₁.here.top, hexec, d3', Value.category]
  exact X₁.ldcStringW hexec (own := RX8) (text := text) (index := is) (a := sa) hown' hstr'.1 hstr'.2
    (g := { method := m, pc := pc + 4, locals := ls, stack := .ref T.heap.size :: .ref T.heap.size :: rest, locked := none }) rfl d4' _ (st _ a1)
theorem ns_athrow {cc : ByteArray} {pc : Nat} (hexec : p.tables.exec = Jvm.exec) (hb : c.code = cc) {q : Addr} (hdg : decode cc pc = .ok (.athrow, 1)) (k : vx_W p l e R s m args below meth c H locs cells slots Q (F0 m pc ls rest) q) : W p l e R s m args below meth c H locs cells slots Q (F0 m pc ls (.ref q :: rest)) := by
  intro T hT X
  obtain ⟨t, st, hq⟩ := k T hT X
  refine ⟨t, ?_, hq⟩
  have hdg' : decode c.code pc = .ok (.athrow, 1) := by rw [hb]; exact hdg
  jvm_step X.here [X.here.top, hexec, hdg', athrow.wp_sem]
  exact st
variable {mc ms pc : Nat} {free : Addr → Prop} {A0 A1 : Nat → Prop} {H0 : Heap} {a : Array Value} {st0 : List Value}
theorem ns_callq {S SX : Type} {post : Option Nat → S → Prop} {px : SX → Prop} {B : S → State → Prop} {BX : String → SX → State → Prop} {AX : Nat → Prop} (hr : vx_Run p l e R s m args below meth c H locs cells slots mc ms (F0 m pc ls st0) rest (va_Qq post B A1 a) (vx_X px BX AX) free) (hS : va_S A0 H0 H locs) (hA : ∀ q, q < H.size → A1 q → A0 q) (hf : ∀ q, free q → A0 q) (hAX : ∀ q, q < H.size → AX q → A0 q)
    (kx : ∀ (E : String) (ce : Cell) (q9 : Addr) (u : SX) (t : State) (H1 : Heap) (locs1 : List Loc), t.heap = H1 → s.vm.Alike t.vm → px u → BX E u t → H.size ≤ H1.size → (∀ q : Nat, q < H.size → ¬ AX q → H1[q]? = H[q]?) → va_S A0 H0 H1 locs1 → H1[q9]? = some ce → ce.vm = .none → s.vm.findClass E = some ce.cls → vx_W p l e R s m args below meth c H1 locs1 (cells + mc) (slots + ms) Q (F0 m pc ls rest) q9)
    (kk : ∀ (r : Option Nat) (u : S) (t : State) (H1 : Heap) (locs1 : List Loc), t.heap = H1 → s.vm.Alike t.vm → post r u → B u t → H.size ≤ H1.size → (∀ q : Nat, q < H.size → ¬ A1 q → H1[q]? = H[q]?) → va_S A0 H0 H1 locs1 → W p l e R s m args below meth c H1 locs1 (cells + mc) (slots + ms) Q (F0 m (pc + 3) ls (va_rf r :: rest))) : W p l e R s m args below meth c H locs cells slots Q (F0 m pc ls st0) := by
  intro T hT X
  rcases hr T hT X with ⟨v, st₀, t, T', L, h0, X', hL, e1, e2, ⟨⟨r, u, hv, hp, hb⟩, hF⟩, st⟩ | ⟨q, st₀, t, T', L, E, ce, h0, X', hL, e1, e2, ⟨u, hp, hb, hF⟩, hce, hcv, hcl, st⟩
  · cases hv
    obtain ⟨k1, k2, k3⟩ := vx_keep h0 e1 hS hA hf hL hF
    obtain ⟨t2, a1, b1⟩ := kk r u t T'.heap (locs ++ L) e1.symm (by rw [← e2]; exact X'.warmed.alike) hp hb k1 k2 k3 T' rfl X'
    exact ⟨t2, st t2 a1, b1⟩
  · obtain ⟨k1, k2, k3⟩ := vx_keep h0 e1 hS hAX hf hL hF
    obtain ⟨t2, a1, b1⟩ := kx E ce q u t T'.heap (locs ++ L) e1.symm (by rw [← e2]; exact X'.warmed.alike) hp hb k1 k2 k3 (by rw [e1]; exact hce) hcv hcl T' rfl X'
    exact ⟨t2, st.trans a1, b1⟩
end NSM
/-! ===== calls and throws over the one world ===== -/
def LkV (own : String) (i : Nat) (y : MethodName) (cc : ByteArray) (n : Nat) (ret : Option FieldType) (k : Nat) : Prop := Cond.methodLink own i y ∈ BIG ∧ Cond.instanceMethod y ∈ BIG ∧ Cond.selects y.cls y y ∈ BIG ∧ Cond.initialized y.cls ∈ BIG ∧ Cond.code y cc n ret ∈ BIG ∧ y.cls ≠ "java/lang/invoke/MethodHandle" ∧ y.cls ≠ "java/lang/invoke/VarHandle" ∧ (parseMethodDescriptor y.desc).map (fun d => d.parameters.length) = some k
def LkS (own : String) (i : Nat) (y : MethodName) (cc : ByteArray) (n : Nat) (ret : Option FieldType) (k : Nat) : Prop := Cond.methodLink own i y ∈ BIG ∧ Cond.static y ∈ BIG ∧ Cond.initialized y.cls ∈ BIG ∧ Cond.code y cc n ret ∈ BIG ∧ y.cls ≠ "java/lang/invoke/MethodHandle" ∧ y.cls ≠ "java/lang/invoke/VarHandle" ∧ (parseMethodDescriptor y.desc).map (fun d => d.parameters.length) = some k
def Rcv (X : XT) (t : TS) (b : Nat) (C : String) : Prop := ∃ (k0 ci : Nat) (fs : List Value) (q : vw_C), (wA X t)[k0]? = some (b, .inr (ci, fs)) ∧ vwCl[ci]? = some q ∧ q.1 = C
theorem big_self {w : Cond} (h : w ∈ BIG) : w ∈ BIG ∧ ((w.onTables && w.keeps) = true ∨ ∃ ty, w = .arrayClass ty) := ⟨h, good_of_word (big_good h)⟩
abbrev QXG (X : XT) (B : Nat) (G : Int32 ⊕ String → TS → Prop) := va_Qi (fun (r' : Int32) (u : TS) => G (.inl r') u) (Pst X B) (Ab B)
abbrev QXI (X : XT) (B : Nat) (r : Int32 ⊕ String) (t : TS) := QXG X B (fun x u => r = x ∧ u = t)
abbrev QXQ (X : XT) (B : Nat) (r : Option Nat ⊕ String) (t : TS) := va_Qq (fun (r' : Option Nat) (u : TS) => r = .inl r' ∧ u = t) (Pst X B) (Ab B)
abbrev XCG {α : Type} (X : XT) (B : Nat) (G : α ⊕ String → TS → Prop) := vx_X (fun (_ : TS) => True) (fun (E : String) (u : TS) (U : State) => G (.inr E) u ∧ Pst X B u U) (Ab B)
abbrev XCx {α : Type} (X : XT) (B : Nat) (r : α ⊕ String) (t : TS) := XCG X B (fun x u => r = x ∧ u = t)
theorem gx {α : Type} {G : α ⊕ String → TS → Prop} {x r : α ⊕ String} {t t9 : TS} (hG : G r t9) (h : r = x ∧ t = t9) : G x t := by obtain ⟨rfl, rfl⟩ := h; exact hG
section CALLS
variable {p : Program} {l : Launch} {e : Env} {R : Room} {s : State} {m : MethodId} {args : Array Value} {below : List Frame} {meth : Method} {c : Code} {H : Heap} {locs : List Loc} {cells slots : Nat} {Q : State → Prop} {X : XT} {B : Nat} {cc : ByteArray} {nL : Nat} {ret : Option FieldType} {pc : Nat} {ls : Array Slot} {rest : List Value} {t t' : TS} {own : String}
variable {y : MethodName} {bytes : ByteArray} {maxL mc mk index : Nat} {ret2 : Option FieldType} {rm : Room} {b : Nat} {As : List Value}
theorem rcv_of (E : Ev X B p s m args meth c own cc nL ret) (hW : Ws X B s.heap H locs t) {C : String} (h : Rcv X t b C) : ∃ cell : Cell, H[b]? = some cell ∧ cell.vm.isStatics = false ∧ s.vm.findClass C = some cell.cls := by
  obtain ⟨k0, ci, fs, q, h1, h2, h3⟩ := h
  rw [← h3]
  exact va_recv E.2.2.2.2.2.1 hW.1 h2 h1
theorem cw_V (E : Ev X B p s m args meth c own cc nL ret) (hk : LkV own index y bytes maxL ret2 As.length) (hR1 : rm.frames + 1 ≤ R.frames) (hR2 : 8 + (maxL + 11) + rm.locals ≤ R.locals) (hrm : rm.cells = mc ∧ rm.slots = mk) : CallW R s args own y.cls index y bytes maxL ret2 (.code y bytes maxL ret2 :: BIG) rm mc mk As.length :=
  cwV As.length E.2.2.2.2.1 (fun w hw => by
    simp only [wsV, List.mem_append, List.mem_cons, List.not_mem_nil, or_false] at hw
    rcases hw with (h | h | h | h) | h | h
    · rw [h]; exact big_self hk.1
    · rw [h]; exact big_self hk.2.1
    · rw [h]; exact big_self hk.2.2.1
    · rw [h]; exact big_self hk.2.2.2.1
    · rw [h]; exact big_self hk.2.2.2.2.1
    · exact big_self h) rfl hrm.1 hrm.2 ⟨rfl, hk.2.2.2.2.2⟩ ⟨hR1, hR2⟩
theorem cw_S (E : Ev X B p s m args meth c own cc nL ret) (hk : LkS own index y bytes maxL ret2 As.length) (hR1 : rm.frames + 1 ≤ R.frames) (hR2 : 8 + (maxL + 11) + rm.locals ≤ R.locals) (hrm : rm.cells = mc ∧ rm.slots = mk) : CallB R s args own index y bytes maxL ret2 (.code y bytes maxL ret2 :: BIG) rm mc mk As.length ∧ (Cond.static y).before args s = true :=
  ⟨callB_of As.length E.2.2.2.2.1 (fun w hw => by
    rcases List.mem_cons.mp hw with h | h
    · rw [h]; exact big_self hk.2.2.2.1
    · exact big_self h) rfl hrm.1 hrm.2 (E.2.2.2.2.1 _ hk.2.2.1) (E.2.2.2.2.1 _ hk.1) hk.2.2.2.2 ⟨hR1, hR2⟩, E.2.2.2.2.1 _ hk.2.1⟩
theorem retIX {v : Int32} {G : Int32 ⊕ String → TS → Prop} (E : Ev X B p s m args meth c own cc nL (some .int)) (hW : Ws X B s.heap H locs t) (h : G (.inl v) t) (hdg : decode cc pc = .ok (.ireturn, 1)) : W p l e R s m args below meth c H locs cells slots (MQ below (QXG X B G) args s cells slots (Ab B)) (F0 m pc ls [.int v]) :=
  W.iret E.1 E.2.1 E.2.2.2.2.2.2.1 (fun U hU _ => ⟨⟨v, t, rfl, h, hW.pst hU⟩, hW.2.2.F hU⟩) hW.2.2.2.2 hdg E.2.2.2.2.2.2.2.1
theorem retZX {v : Int32} {r : Int32 ⊕ String} (E : Ev X B p s m args meth c own cc nL (some .boolean)) (hW : Ws X B s.heap H locs t) (hz : v = 0 ∨ v = 1) (h : r = .inl v ∧ t = t') (hdg : decode cc pc = .ok (.ireturn, 1)) : W p l e R s m args below meth c H locs cells slots (MQ below (QXI X B r t') args s cells slots (Ab B)) (F0 m pc ls [.int v]) :=
  W.zret E.1 E.2.1 E.2.2.2.2.2.2.1 (by rcases hz with q | q <;> rw [q] <;> rfl) (fun U hU _ => ⟨⟨v, t, rfl, h, hW.pst hU⟩, hW.2.2.F hU⟩) hW.2.2.2.2 hdg E.2.2.2.2.2.2.2.1
theorem retQX {v : Option Nat} {r : Option Nat ⊕ String} {C : String} (E : Ev X B p s m args meth c own cc nL (some (.object C))) (hW : Ws X B s.heap H locs t) (h : r = .inl v ∧ t = t') (hdg : decode cc pc = .ok (.areturn, 1)) : W p l e R s m args below meth c H locs cells slots (MQ below (QXQ X B r t') args s cells slots (Ab B)) (F0 m pc ls [va_rf v]) :=
  W.aret E.1 E.2.1 E.2.2.2.2.2.2.1 (Or.inl ⟨C, rfl⟩) (va_rf_or v) (fun U hU _ => ⟨⟨v, t, rfl, h, hW.pst hU⟩, hW.2.2.F hU⟩) hW.2.2.2.2 hdg E.2.2.2.2.2.2.2.1

theorem e2C {α : Type} {v r : α} {S S9 : CS} {u : MS × (Nat → Int64)} (hf : some (v, S) = some (r, S9)) : v = r ∧ (S, u) = (S9, u) := by
  obtain ⟨h1, h2⟩ := Prod.mk.inj (Option.some.inj hf)
  exact ⟨h1, by rw [h2]⟩
theorem e2M {α : Type} {v r : α} {S S9 : MS} {cs : CS} {o : Nat → Int64} (hf : some (v, S) = some (r, S9)) : v = r ∧ (cs, S, o) = (cs, S9, o) := by
  obtain ⟨h1, h2⟩ := Prod.mk.inj (Option.some.inj hf)
  exact ⟨h1, by rw [h2]⟩
theorem e1C {S S9 : CS} {u : MS × (Nat → Int64)} (hf : some S = some S9) : (S, u) = (S9, u) := by rw [Option.some.inj hf]
theorem e1M {S S9 : MS} {cs : CS} {o : Nat → Int64} (hf : some S = some S9) : (cs, S, o) = (cs, S9, o) := by rw [Option.some.inj hf]
theorem exC {α : Type} {v : α} {r : α ⊕ String} {S S9 : CS} {u : MS × (Nat → Int64)} (hf : some (.inl v, S) = some (r, S9)) : r = .inl v ∧ (S, u) = (S9, u) := by
  obtain ⟨h1, h2⟩ := Prod.mk.inj (Option.some.inj hf)
  exact ⟨h1.symm, by rw [h2]⟩
theorem etC {α : Type} {v : String} {r : α ⊕ String} {S S9 : CS} {u : MS × (Nat → Int64)} (hf : some (.inr v, S) = some (r, S9)) : r = .inr v ∧ (S, u) = (S9, u) := by
  obtain ⟨h1, h2⟩ := Prod.mk.inj (Option.some.inj hf)
  exact ⟨h1.symm, by rw [h2]⟩
theorem callVI {r : Int32} (E : Ev X B p s m args meth c own cc nL ret) (hW : Ws X B s.heap H locs t) (hM : Met l y (.code y bytes maxL ret2 :: BIG) rm (Pre X B t (.ref b :: As)) (QI X B r t') mc mk (Ab B)) (hk : LkV own index y bytes maxL ret2 As.length) (hrv : Rcv X t b y.cls) (hR1 : rm.frames + 1 ≤ R.frames) (hR2 : 8 + (maxL + 11) + rm.locals ≤ R.locals) (hc1 : cells + mc ≤ R.cells) (hc2 : slots + mk ≤ R.slots) (hsz : ls.size = nL) (hst : (rest.map fun v => v.category).sum ≤ 8) (hdg : decode cc pc = .ok (.invokevirtual index, 3)) (kk : ∀ (H1 : Heap) (locs1 : List Loc), Ws X B s.heap H1 locs1 t' → W p l e R s m args below meth c H1 locs1 (cells + mc) (slots + mk) Q (F0 m (pc + 3) ls (.int r :: rest))) (hrm : rm.cells = mc ∧ rm.slots = mk := by exact ⟨rfl, rfl⟩) : W p l e R s m args below meth c H locs cells slots Q (F0 m pc ls (As.reverse ++ .ref b :: rest)) := by
  refine va_calli (va_runV (As := As) (rest := rest) ⟨E.1, E.2.1, E.2.2.1, E.2.2.2.1, E.2.2.2.2.1⟩ hM (cw_V E hk hR1 hR2 hrm) ⟨Pre.blind, rcv_of E hW hrv, Pre.of E hW (.ref b :: As)⟩ rfl rfl hsz rfl (lv_room hst) hdg ⟨hc1, hc2⟩) hW.2.2 (fun q _ h => h) (fun q h => h) (fun r1 u t1 H1 locs1 ht hvm hw hB hz1 hk1 hS => ?_)
  obtain ⟨rfl, rfl⟩ := hw
  exact kk H1 locs1 ⟨by rw [← ht]; exact hB.1, hB.2, hS⟩
theorem xcallVI {r1 : Int32 ⊕ String} {α : Type} {G : α ⊕ String → TS → Prop} {mcT mkT : Nat} {Qc : Array Value → State → Outcome → State → Prop} (E : Ev X B p s m args meth c own cc nL ret) (hW : Ws X B s.heap H locs t) (hM : vx_Met l y (.code y bytes maxL ret2 :: BIG) rm (Pre X B t (.ref b :: As)) (QXI X B r1 t') (XCx X B r1 t') mc mk (Ab B)) (hk : LkV own index y bytes maxL ret2 As.length) (hrv : Rcv X t b y.cls) (hR1 : rm.frames + 1 ≤ R.frames) (hR2 : 8 + (maxL + 11) + rm.locals ≤ R.locals) (hc1 : cells + mc ≤ R.cells) (hc2 : slots + mk ≤ R.slots) (hsz : ls.size = nL) (hst : (rest.map fun v => v.category).sum ≤ 8) (hdg : decode cc pc = .ok (.invokevirtual index, 3)) (hxt : ∀ x ∈ c.exceptionTable.toList, False) (hq1 : cells + mc ≤ mcT) (hq2 : slots + mk ≤ mkT) (he : ∀ z, r1 = .inr z → G (.inr z) t') (kk : ∀ (r : Int32), r1 = .inl r → ∀ (H1 : Heap) (locs1 : List Loc), Ws X B s.heap H1 locs1 t' → W p l e R s m args below meth c H1 locs1 (cells + mc) (slots + mk) (vx_MQ below Qc (XCG X B G) args s mcT mkT (Ab B)) (F0 m (pc + 3) ls (.int r :: rest))) (hrm : rm.cells = mc ∧ rm.slots = mk := by exact ⟨rfl, rfl⟩) : W p l e R s m args below meth c H locs cells slots (vx_MQ below Qc (XCG X B G) args s mcT mkT (Ab B)) (F0 m pc ls (As.reverse ++ .ref b :: rest)) := by
  refine vx_calli (vx_runV (As := As) (rest := rest) ⟨E.1, E.2.1, E.2.2.1, E.2.2.2.1, E.2.2.2.2.1⟩ hM (cw_V E hk hR1 hR2 hrm) ⟨Pre.blind, rcv_of E hW hrv, Pre.of E hW (.ref b :: As)⟩ rfl rfl hsz rfl (lv_room hst) hdg ⟨hc1, hc2⟩) hW.2.2 (fun q _ h => h) (fun q h => h) (fun q _ h => h) (fun E9 ce q9 u t1 H1 locs1 ht hvm hp hB hz1 hk1 hS hce hcv hcl => ?_) (fun r1 u t1 H1 locs1 ht hvm hw hB hz1 hk1 hS => ?_)
  · obtain ⟨⟨h8, rfl⟩, hB⟩ := hB
    exact vx_out (fun x hx => (hxt x hx).elim) E.2.2.2.2.2.2.2.1 hce hcv hcl (fun U hU _ => ⟨_, trivial, ⟨he E9 h8, by rw [hU, ← ht]; exact hB.1, hB.2⟩, hS.F hU⟩) hS.2.2 hq1 hq2
  · obtain ⟨rfl, rfl⟩ := hw
    exact kk _ rfl H1 locs1 ⟨by rw [← ht]; exact hB.1, hB.2, hS⟩
theorem callVJ {r : Int64} (E : Ev X B p s m args meth c own cc nL ret) (hW : Ws X B s.heap H locs t) (hM : Met l y (.code y bytes maxL ret2 :: BIG) rm (Pre X B t (.ref b :: As)) (QL X B r t') mc mk (Ab B)) (hk : LkV own index y bytes maxL ret2 As.length) (hrv : Rcv X t b y.cls) (hR1 : rm.frames + 1 ≤ R.frames) (hR2 : 8 + (maxL + 11) + rm.locals ≤ R.locals) (hc1 : cells + mc ≤ R.cells) (hc2 : slots + mk ≤ R.slots) (hsz : ls.size = nL) (hst : (rest.map fun v => v.category).sum ≤ 8) (hdg : decode cc pc = .ok (.invokevirtual index, 3)) (kk : ∀ (H1 : Heap) (locs1 : List Loc), Ws X B s.heap H1 locs1 t' → W p l e R s m args below meth c H1 locs1 (cells + mc) (slots + mk) Q (F0 m (pc + 3) ls (.long r :: rest))) (hrm : rm.cells = mc ∧ rm.slots = mk := by exact ⟨rfl, rfl⟩) : W p l e R s m args below meth c H locs cells slots Q (F0 m pc ls (As.reverse ++ .ref b :: rest)) := by
  refine va_calll (va_runV (As := As) (rest := rest) ⟨E.1, E.2.1, E.2.2.1, E.2.2.2.1, E.2.2.2.2.1⟩ hM (cw_V E hk hR1 hR2 hrm) ⟨Pre.blind, rcv_of E hW hrv, Pre.of E hW (.ref b :: As)⟩ rfl rfl hsz rfl (lv_room hst) hdg ⟨hc1, hc2⟩) hW.2.2 (fun q _ h => h) (fun q h => h) (fun r1 u t1 H1 locs1 ht hvm hw hB hz1 hk1 hS => ?_)
  obtain ⟨rfl, rfl⟩ := hw
  exact kk H1 locs1 ⟨by rw [← ht]; exact hB.1, hB.2, hS⟩
theorem callVV (E : Ev X B p s m args meth c own cc nL ret) (hW : Ws X B s.heap H locs t) (hM : Met l y (.code y bytes maxL ret2 :: BIG) rm (Pre X B t (.ref b :: As)) (QV X B t') mc mk (Ab B)) (hk : LkV own index y bytes maxL ret2 As.length) (hrv : Rcv X t b y.cls) (hR1 : rm.frames + 1 ≤ R.frames) (hR2 : 8 + (maxL + 11) + rm.locals ≤ R.locals) (hc1 : cells + mc ≤ R.cells) (hc2 : slots + mk ≤ R.slots) (hsz : ls.size = nL) (hst : (rest.map fun v => v.category).sum ≤ 8) (hdg : decode cc pc = .ok (.invokevirtual index, 3)) (kk : ∀ (H1 : Heap) (locs1 : List Loc), Ws X B s.heap H1 locs1 t' → W p l e R s m args below meth c H1 locs1 (cells + mc) (slots + mk) Q (F0 m (pc + 3) ls (rest))) (hrm : rm.cells = mc ∧ rm.slots = mk := by exact ⟨rfl, rfl⟩) : W p l e R s m args below meth c H locs cells slots Q (F0 m pc ls (As.reverse ++ .ref b :: rest)) := by
  refine va_callv (va_runV (As := As) (rest := rest) ⟨E.1, E.2.1, E.2.2.1, E.2.2.2.1, E.2.2.2.2.1⟩ hM (cw_V E hk hR1 hR2 hrm) ⟨Pre.blind, rcv_of E hW hrv, Pre.of E hW (.ref b :: As)⟩ rfl rfl hsz rfl (lv_room hst) hdg ⟨hc1, hc2⟩) hW.2.2 (fun q _ h => h) (fun q h => h) (fun u t1 H1 locs1 ht hvm hw hB hz1 hk1 hS => ?_)
  subst hw
  exact kk H1 locs1 ⟨by rw [← ht]; exact hB.1, hB.2, hS⟩
theorem callVQ {r : Option Nat} (E : Ev X B p s m args meth c own cc nL ret) (hW : Ws X B s.heap H locs t) (hM : Met l y (.code y bytes maxL ret2 :: BIG) rm (Pre X B t (.ref b :: As)) (QQ X B r t') mc mk (Ab B)) (hk : LkV own index y bytes maxL ret2 As.length) (hrv : Rcv X t b y.cls) (hR1 : rm.frames + 1 ≤ R.frames) (hR2 : 8 + (maxL + 11) + rm.locals ≤ R.locals) (hc1 : cells + mc ≤ R.cells) (hc2 : slots + mk ≤ R.slots) (hsz : ls.size = nL) (hst : (rest.map fun v => v.category).sum ≤ 8) (hdg : decode cc pc = .ok (.invokevirtual index, 3)) (kk : ∀ (H1 : Heap) (locs1 : List Loc), Ws X B s.heap H1 locs1 t' → W p l e R s m args below meth c H1 locs1 (cells + mc) (slots + mk) Q (F0 m (pc + 3) ls (va_rf r :: rest))) (hrm : rm.cells = mc ∧ rm.slots = mk := by exact ⟨rfl, rfl⟩) : W p l e R s m args below meth c H locs cells slots Q (F0 m pc ls (As.reverse ++ .ref b :: rest)) := by
  refine va_callq (va_runV (As := As) (rest := rest) ⟨E.1, E.2.1, E.2.2.1, E.2.2.2.1, E.2.2.2.2.1⟩ hM (cw_V E hk hR1 hR2 hrm) ⟨Pre.blind, rcv_of E hW hrv, Pre.of E hW (.ref b :: As)⟩ rfl rfl hsz rfl (lv_room hst) hdg ⟨hc1, hc2⟩) hW.2.2 (fun q _ h => h) (fun q h => h) (fun r1 u t1 H1 locs1 ht hvm hw hB hz1 hk1 hS => ?_)
  obtain ⟨rfl, rfl⟩ := hw
  exact kk H1 locs1 ⟨by rw [← ht]; exact hB.1, hB.2, hS⟩
theorem xcallVQ {r1 : Option Nat ⊕ String} {α : Type} {G : α ⊕ String → TS → Prop} {mcT mkT : Nat} {Qc : Array Value → State → Outcome → State → Prop} (E : Ev X B p s m args meth c own cc nL ret) (hW : Ws X B s.heap H locs t) (hM : vx_Met l y (.code y bytes maxL ret2 :: BIG) rm (Pre X B t (.ref b :: As)) (QXQ X B r1 t') (XCx X B r1 t') mc mk (Ab B)) (hk : LkV own index y bytes maxL ret2 As.length) (hrv : Rcv X t b y.cls) (hR1 : rm.frames + 1 ≤ R.frames) (hR2 : 8 + (maxL + 11) + rm.locals ≤ R.locals) (hc1 : cells + mc ≤ R.cells) (hc2 : slots + mk ≤ R.slots) (hsz : ls.size = nL) (hst : (rest.map fun v => v.category).sum ≤ 8) (hdg : decode cc pc = .ok (.invokevirtual index, 3)) (hxt : ∀ x ∈ c.exceptionTable.toList, False) (hq1 : cells + mc ≤ mcT) (hq2 : slots + mk ≤ mkT) (he : ∀ z, r1 = .inr z → G (.inr z) t') (kk : ∀ (r : Option Nat), r1 = .inl r → ∀ (H1 : Heap) (locs1 : List Loc), Ws X B s.heap H1 locs1 t' → W p l e R s m args below meth c H1 locs1 (cells + mc) (slots + mk) (vx_MQ below Qc (XCG X B G) args s mcT mkT (Ab B)) (F0 m (pc + 3) ls (va_rf r :: rest))) (hrm : rm.cells = mc ∧ rm.slots = mk := by exact ⟨rfl, rfl⟩) : W p l e R s m args below meth c H locs cells slots (vx_MQ below Qc (XCG X B G) args s mcT mkT (Ab B)) (F0 m pc ls (As.reverse ++ .ref b :: rest)) := by
  refine ns_callq (vx_runV (As := As) (rest := rest) ⟨E.1, E.2.1, E.2.2.1, E.2.2.2.1, E.2.2.2.2.1⟩ hM (cw_V E hk hR1 hR2 hrm) ⟨Pre.blind, rcv_of E hW hrv, Pre.of E hW (.ref b :: As)⟩ rfl rfl hsz rfl (lv_room hst) hdg ⟨hc1, hc2⟩) hW.2.2 (fun q _ h => h) (fun q h => h) (fun q _ h => h) (fun E9 ce q9 u t1 H1 locs1 ht hvm hp hB hz1 hk1 hS hce hcv hcl => ?_) (fun r1 u t1 H1 locs1 ht hvm hw hB hz1 hk1 hS => ?_)
  · obtain ⟨⟨h8, rfl⟩, hB⟩ := hB
    exact vx_out (fun x hx => (hxt x hx).elim) E.2.2.2.2.2.2.2.1 hce hcv hcl (fun U hU _ => ⟨_, trivial, ⟨he E9 h8, by rw [hU, ← ht]; exact hB.1, hB.2⟩, hS.F hU⟩) hS.2.2 hq1 hq2
  · obtain ⟨rfl, rfl⟩ := hw
    exact kk _ rfl H1 locs1 ⟨by rw [← ht]; exact hB.1, hB.2, hS⟩
theorem callSI {r : Int32} (E : Ev X B p s m args meth c own cc nL ret) (hW : Ws X B s.heap H locs t) (hM : Met l y (.code y bytes maxL ret2 :: BIG) rm (Pre X B t As) (QI X B r t') mc mk (Ab B)) (hk : LkS own index y bytes maxL ret2 As.length) (hR1 : rm.frames + 1 ≤ R.frames) (hR2 : 8 + (maxL + 11) + rm.locals ≤ R.locals) (hc1 : cells + mc ≤ R.cells) (hc2 : slots + mk ≤ R.slots) (hsz : ls.size = nL) (hst : (rest.map fun v => v.category).sum ≤ 8) (hdg : decode cc pc = .ok (.invokestatic index, 3)) (kk : ∀ (H1 : Heap) (locs1 : List Loc), Ws X B s.heap H1 locs1 t' → W p l e R s m args below meth c H1 locs1 (cells + mc) (slots + mk) Q (F0 m (pc + 3) ls (.int r :: rest))) (hrm : rm.cells = mc ∧ rm.slots = mk := by exact ⟨rfl, rfl⟩) : W p l e R s m args below meth c H locs cells slots Q (F0 m pc ls (As.reverse ++ rest)) := by
  refine va_calli (va_runS (As := As) (rest := rest) ⟨E.1, E.2.1, E.2.2.1, E.2.2.2.1, E.2.2.2.2.1⟩ hM (cw_S E hk hR1 hR2 hrm) ⟨Pre.blind, Pre.of E hW As⟩ rfl rfl hsz rfl (lv_room hst) hdg ⟨hc1, hc2⟩) hW.2.2 (fun q _ h => h) (fun q h => h) (fun r1 u t1 H1 locs1 ht hvm hw hB hz1 hk1 hS => ?_)
  obtain ⟨rfl, rfl⟩ := hw
  exact kk H1 locs1 ⟨by rw [← ht]; exact hB.1, hB.2, hS⟩
theorem xcallSI {r1 : Int32 ⊕ String} {α : Type} {G : α ⊕ String → TS → Prop} {mcT mkT : Nat} {Qc : Array Value → State → Outcome → State → Prop} (E : Ev X B p s m args meth c own cc nL ret) (hW : Ws X B s.heap H locs t) (hM : vx_Met l y (.code y bytes maxL ret2 :: BIG) rm (Pre X B t As) (QXI X B r1 t') (XCx X B r1 t') mc mk (Ab B)) (hk : LkS own index y bytes maxL ret2 As.length) (hR1 : rm.frames + 1 ≤ R.frames) (hR2 : 8 + (maxL + 11) + rm.locals ≤ R.locals) (hc1 : cells + mc ≤ R.cells) (hc2 : slots + mk ≤ R.slots) (hsz : ls.size = nL) (hst : (rest.map fun v => v.category).sum ≤ 8) (hdg : decode cc pc = .ok (.invokestatic index, 3)) (hxt : ∀ x ∈ c.exceptionTable.toList, False) (hq1 : cells + mc ≤ mcT) (hq2 : slots + mk ≤ mkT) (he : ∀ z, r1 = .inr z → G (.inr z) t') (kk : ∀ (r : Int32), r1 = .inl r → ∀ (H1 : Heap) (locs1 : List Loc), Ws X B s.heap H1 locs1 t' → W p l e R s m args below meth c H1 locs1 (cells + mc) (slots + mk) (vx_MQ below Qc (XCG X B G) args s mcT mkT (Ab B)) (F0 m (pc + 3) ls (.int r :: rest))) (hrm : rm.cells = mc ∧ rm.slots = mk := by exact ⟨rfl, rfl⟩) : W p l e R s m args below meth c H locs cells slots (vx_MQ below Qc (XCG X B G) args s mcT mkT (Ab B)) (F0 m pc ls (As.reverse ++ rest)) := by
  refine vx_calli (vx_runS (As := As) (rest := rest) ⟨E.1, E.2.1, E.2.2.1, E.2.2.2.1, E.2.2.2.2.1⟩ hM (cw_S E hk hR1 hR2 hrm) ⟨Pre.blind, Pre.of E hW As⟩ rfl rfl hsz rfl (lv_room hst) hdg ⟨hc1, hc2⟩) hW.2.2 (fun q _ h => h) (fun q h => h) (fun q _ h => h) (fun E9 ce q9 u t1 H1 locs1 ht hvm hp hB hz1 hk1 hS hce hcv hcl => ?_) (fun r1 u t1 H1 locs1 ht hvm hw hB hz1 hk1 hS => ?_)
  · obtain ⟨⟨h8, rfl⟩, hB⟩ := hB
    exact vx_out (fun x hx => (hxt x hx).elim) E.2.2.2.2.2.2.2.1 hce hcv hcl (fun U hU _ => ⟨_, trivial, ⟨he E9 h8, by rw [hU, ← ht]; exact hB.1, hB.2⟩, hS.F hU⟩) hS.2.2 hq1 hq2
  · obtain ⟨rfl, rfl⟩ := hw
    exact kk _ rfl H1 locs1 ⟨by rw [← ht]; exact hB.1, hB.2, hS⟩
theorem callSJ {r : Int64} (E : Ev X B p s m args meth c own cc nL ret) (hW : Ws X B s.heap H locs t) (hM : Met l y (.code y bytes maxL ret2 :: BIG) rm (Pre X B t As) (QL X B r t') mc mk (Ab B)) (hk : LkS own index y bytes maxL ret2 As.length) (hR1 : rm.frames + 1 ≤ R.frames) (hR2 : 8 + (maxL + 11) + rm.locals ≤ R.locals) (hc1 : cells + mc ≤ R.cells) (hc2 : slots + mk ≤ R.slots) (hsz : ls.size = nL) (hst : (rest.map fun v => v.category).sum ≤ 8) (hdg : decode cc pc = .ok (.invokestatic index, 3)) (kk : ∀ (H1 : Heap) (locs1 : List Loc), Ws X B s.heap H1 locs1 t' → W p l e R s m args below meth c H1 locs1 (cells + mc) (slots + mk) Q (F0 m (pc + 3) ls (.long r :: rest))) (hrm : rm.cells = mc ∧ rm.slots = mk := by exact ⟨rfl, rfl⟩) : W p l e R s m args below meth c H locs cells slots Q (F0 m pc ls (As.reverse ++ rest)) := by
  refine va_calll (va_runS (As := As) (rest := rest) ⟨E.1, E.2.1, E.2.2.1, E.2.2.2.1, E.2.2.2.2.1⟩ hM (cw_S E hk hR1 hR2 hrm) ⟨Pre.blind, Pre.of E hW As⟩ rfl rfl hsz rfl (lv_room hst) hdg ⟨hc1, hc2⟩) hW.2.2 (fun q _ h => h) (fun q h => h) (fun r1 u t1 H1 locs1 ht hvm hw hB hz1 hk1 hS => ?_)
  obtain ⟨rfl, rfl⟩ := hw
  exact kk H1 locs1 ⟨by rw [← ht]; exact hB.1, hB.2, hS⟩
theorem callSV (E : Ev X B p s m args meth c own cc nL ret) (hW : Ws X B s.heap H locs t) (hM : Met l y (.code y bytes maxL ret2 :: BIG) rm (Pre X B t As) (QV X B t') mc mk (Ab B)) (hk : LkS own index y bytes maxL ret2 As.length) (hR1 : rm.frames + 1 ≤ R.frames) (hR2 : 8 + (maxL + 11) + rm.locals ≤ R.locals) (hc1 : cells + mc ≤ R.cells) (hc2 : slots + mk ≤ R.slots) (hsz : ls.size = nL) (hst : (rest.map fun v => v.category).sum ≤ 8) (hdg : decode cc pc = .ok (.invokestatic index, 3)) (kk : ∀ (H1 : Heap) (locs1 : List Loc), Ws X B s.heap H1 locs1 t' → W p l e R s m args below meth c H1 locs1 (cells + mc) (slots + mk) Q (F0 m (pc + 3) ls (rest))) (hrm : rm.cells = mc ∧ rm.slots = mk := by exact ⟨rfl, rfl⟩) : W p l e R s m args below meth c H locs cells slots Q (F0 m pc ls (As.reverse ++ rest)) := by
  refine va_callv (va_runS (As := As) (rest := rest) ⟨E.1, E.2.1, E.2.2.1, E.2.2.2.1, E.2.2.2.2.1⟩ hM (cw_S E hk hR1 hR2 hrm) ⟨Pre.blind, Pre.of E hW As⟩ rfl rfl hsz rfl (lv_room hst) hdg ⟨hc1, hc2⟩) hW.2.2 (fun q _ h => h) (fun q h => h) (fun u t1 H1 locs1 ht hvm hw hB hz1 hk1 hS => ?_)
  subst hw
  exact kk H1 locs1 ⟨by rw [← ht]; exact hB.1, hB.2, hS⟩
theorem callSQ {r : Option Nat} (E : Ev X B p s m args meth c own cc nL ret) (hW : Ws X B s.heap H locs t) (hM : Met l y (.code y bytes maxL ret2 :: BIG) rm (Pre X B t As) (QQ X B r t') mc mk (Ab B)) (hk : LkS own index y bytes maxL ret2 As.length) (hR1 : rm.frames + 1 ≤ R.frames) (hR2 : 8 + (maxL + 11) + rm.locals ≤ R.locals) (hc1 : cells + mc ≤ R.cells) (hc2 : slots + mk ≤ R.slots) (hsz : ls.size = nL) (hst : (rest.map fun v => v.category).sum ≤ 8) (hdg : decode cc pc = .ok (.invokestatic index, 3)) (kk : ∀ (H1 : Heap) (locs1 : List Loc), Ws X B s.heap H1 locs1 t' → W p l e R s m args below meth c H1 locs1 (cells + mc) (slots + mk) Q (F0 m (pc + 3) ls (va_rf r :: rest))) (hrm : rm.cells = mc ∧ rm.slots = mk := by exact ⟨rfl, rfl⟩) : W p l e R s m args below meth c H locs cells slots Q (F0 m pc ls (As.reverse ++ rest)) := by
  refine va_callq (va_runS (As := As) (rest := rest) ⟨E.1, E.2.1, E.2.2.1, E.2.2.2.1, E.2.2.2.2.1⟩ hM (cw_S E hk hR1 hR2 hrm) ⟨Pre.blind, Pre.of E hW As⟩ rfl rfl hsz rfl (lv_room hst) hdg ⟨hc1, hc2⟩) hW.2.2 (fun q _ h => h) (fun q h => h) (fun r1 u t1 H1 locs1 ht hvm hw hB hz1 hk1 hS => ?_)
  obtain ⟨rfl, rfl⟩ := hw
  exact kk H1 locs1 ⟨by rw [← ht]; exact hB.1, hB.2, hS⟩
theorem xcallSQ {r1 : Option Nat ⊕ String} {α : Type} {G : α ⊕ String → TS → Prop} {mcT mkT : Nat} {Qc : Array Value → State → Outcome → State → Prop} (E : Ev X B p s m args meth c own cc nL ret) (hW : Ws X B s.heap H locs t) (hM : vx_Met l y (.code y bytes maxL ret2 :: BIG) rm (Pre X B t As) (QXQ X B r1 t') (XCx X B r1 t') mc mk (Ab B)) (hk : LkS own index y bytes maxL ret2 As.length) (hR1 : rm.frames + 1 ≤ R.frames) (hR2 : 8 + (maxL + 11) + rm.locals ≤ R.locals) (hc1 : cells + mc ≤ R.cells) (hc2 : slots + mk ≤ R.slots) (hsz : ls.size = nL) (hst : (rest.map fun v => v.category).sum ≤ 8) (hdg : decode cc pc = .ok (.invokestatic index, 3)) (hxt : ∀ x ∈ c.exceptionTable.toList, False) (hq1 : cells + mc ≤ mcT) (hq2 : slots + mk ≤ mkT) (he : ∀ z, r1 = .inr z → G (.inr z) t') (kk : ∀ (r : Option Nat), r1 = .inl r → ∀ (H1 : Heap) (locs1 : List Loc), Ws X B s.heap H1 locs1 t' → W p l e R s m args below meth c H1 locs1 (cells + mc) (slots + mk) (vx_MQ below Qc (XCG X B G) args s mcT mkT (Ab B)) (F0 m (pc + 3) ls (va_rf r :: rest))) (hrm : rm.cells = mc ∧ rm.slots = mk := by exact ⟨rfl, rfl⟩) : W p l e R s m args below meth c H locs cells slots (vx_MQ below Qc (XCG X B G) args s mcT mkT (Ab B)) (F0 m pc ls (As.reverse ++ rest)) := by
  refine ns_callq (vx_runS (As := As) (rest := rest) ⟨E.1, E.2.1, E.2.2.1, E.2.2.2.1, E.2.2.2.2.1⟩ hM (cw_S E hk hR1 hR2 hrm) ⟨Pre.blind, Pre.of E hW As⟩ rfl rfl hsz rfl (lv_room hst) hdg ⟨hc1, hc2⟩) hW.2.2 (fun q _ h => h) (fun q h => h) (fun q _ h => h) (fun E9 ce q9 u t1 H1 locs1 ht hvm hp hB hz1 hk1 hS hce hcv hcl => ?_) (fun r1 u t1 H1 locs1 ht hvm hw hB hz1 hk1 hS => ?_)
  · obtain ⟨⟨h8, rfl⟩, hB⟩ := hB
    exact vx_out (fun x hx => (hxt x hx).elim) E.2.2.2.2.2.2.2.1 hce hcv hcl (fun U hU _ => ⟨_, trivial, ⟨he E9 h8, by rw [hU, ← ht]; exact hB.1, hB.2⟩, hS.F hU⟩) hS.2.2 hq1 hq2
  · obtain ⟨rfl, rfl⟩ := hw
    exact kk _ rfl H1 locs1 ⟨by rw [← ht]; exact hB.1, hB.2, hS⟩
def LkC (own : String) (i : Nat) (y : MethodName) (cc : ByteArray) (n : Nat) (k : Nat) : Prop := Cond.methodLink own i y ∈ BIG ∧ Cond.instanceMethod y ∈ BIG ∧ Cond.initialized y.cls ∈ BIG ∧ Cond.code y cc n none ∈ BIG ∧ y.name = "<init>" ∧ y.cls ≠ "java/lang/invoke/MethodHandle" ∧ y.cls ≠ "java/lang/invoke/VarHandle" ∧ (parseMethodDescriptor y.desc).map (fun d => d.parameters.length) = some k
theorem callCV (E : Ev X B p s m args meth c own cc nL ret) (hW : Ws X B s.heap H locs t) (hM : Met l y (.code y bytes maxL none :: BIG) rm (Pre X B t (.ref b :: As)) (QV X B t') mc mk (Ab B)) (hk : LkC own index y bytes maxL As.length) (hR1 : rm.frames + 1 ≤ R.frames) (hR2 : 8 + (maxL + 11) + rm.locals ≤ R.locals) (hc1 : cells + mc ≤ R.cells) (hc2 : slots + mk ≤ R.slots) (hsz : ls.size = nL) (hst : (rest.map fun v => v.category).sum ≤ 8) (hdg : decode cc pc = .ok (.invokespecial index, 3)) (kk : ∀ (H1 : Heap) (locs1 : List Loc), Ws X B s.heap H1 locs1 t' → W p l e R s m args below meth c H1 locs1 (cells + mc) (slots + mk) Q (F0 m (pc + 3) ls rest)) (hrm : rm.cells = mc ∧ rm.slots = mk := by exact ⟨rfl, rfl⟩) : W p l e R s m args below meth c H locs cells slots Q (F0 m pc ls (As.reverse ++ .ref b :: rest)) := by
  refine va_callv (va_runI (As := As) (rest := rest) ⟨E.1, E.2.1, E.2.2.1, E.2.2.2.1, E.2.2.2.2.1⟩ hM (cwI As.length E.2.2.2.2.1 (fun w hw => by
    rcases List.mem_cons.mp hw with h | h
    · rw [h]; exact big_self hk.2.2.2.1
    · exact big_self h) rfl hrm.1 hrm.2 (E.2.2.2.2.1 _ hk.2.2.1) (E.2.2.2.2.1 _ hk.1) (E.2.2.2.2.1 _ hk.2.1) hk.2.2.2.2.1 hk.2.2.2.2.2 ⟨hR1, hR2⟩) ⟨Pre.blind, Pre.of E hW (.ref b :: As)⟩ rfl rfl hsz rfl (lv_room hst) hdg ⟨hc1, hc2⟩) hW.2.2 (fun q _ h => h) (fun q h => h) (fun u t1 H1 locs1 ht hvm hw hB hz1 hk1 hS => ?_)
  subst hw
  exact kk H1 locs1 ⟨by rw [← ht]; exact hB.1, hB.2, hS⟩
def ngL (cls : String) : List Cond := [Cond.castable cls cls, Cond.declares (Bundle.initS "java/lang/RuntimeException"), Cond.declares (Bundle.initS "java/lang/Exception"), Cond.declares (Bundle.initS Bundle.tN)]
theorem ngL_of {s : State} {args : Array Value} {B : Nat} {X : XT} {H : Heap} {cls : String} (hZ : Zs B X s H) (h5 : cls ∈ excL) : ∀ w ∈ ngL cls, w.before args s = true := vx_c (va_Nw.use rfl (hZ.2.2.2.1 cls h5)) (vx_c (va_Nw.use rfl (hZ.2.2.2.2.2 _ (by simp [decL]))) (vx_c (va_Nw.use rfl (hZ.2.2.2.2.2 _ (by simp [decL]))) (vx_c (va_Nw.use rfl (hZ.2.2.2.2.2 _ (by simp [decL]))) vx_n)))
def Th (ik is ic : Nat) (cls text : String) : Prop := Cond.classLink RX8 ik cls ∈ BIG ∧ Cond.initialized cls ∈ BIG ∧ (is, text) ∈ strL ∧ (∀ w ∈ (vx_atS RX8 ic cls ["java/lang/RuntimeException", "java/lang/Exception"]).filter goodWord, w ∈ BIG) ∧ cls ∈ excL ∧ Bundle.fit cls = true ∧ (∀ w ∈ Cond.classLink RX8 ik cls :: Cond.initialized cls :: vx_atS RX8 ic cls ["java/lang/RuntimeException", "java/lang/Exception"], vx_ot w = true) ∧ ∀ w ∈ (vx_atS RX8 ic cls ["java/lang/RuntimeException", "java/lang/Exception"]).filter (fun w => !goodWord w), w ∈ ngL cls
theorem throwS {α : Type} {ik is ic mcT mkT : Nat} {cls text : String} {G : α ⊕ String → TS → Prop} {Qc : Array Value → State → Outcome → State → Prop} (E : Ev X B p s m args meth c RX8 cc nL ret) (hl0 : l.stackTraces = false) (hxt : ∀ x ∈ c.exceptionTable.toList, False) (hW : Ws X B s.heap H locs t) (h : Th ik is ic cls text) (d0 : decode cc pc = .ok (.new ik, 3)) (d3 : decode cc (pc + 3) = .ok (.dup, 1)) (d4 : decode cc (pc + 4) = .ok (.ldc is, 2)) (d6 : decode cc (pc + 6) = .ok (.invokespecial ic, 3)) (d9 : decode cc (pc + 9) = .ok (.athrow, 1)) (hr : G (.inr cls) t) (hst : (rest.map fun v => v.category).sum ≤ 8) (hR1 : 6 ≤ R.frames) (hR2 : 90 ≤ R.locals) (hRc : cells + 1 ≤ R.cells) (hRs : slots + 6 ≤ R.slots) (hq1 : cells + 1 ≤ mcT) (hq2 : slots + 6 ≤ mkT) (hsz : ls.size = c.maxLocals) : W p l e R s m args below meth c H locs cells slots (vx_MQ below Qc (XCG X B G) args s mcT mkT (Ab B)) (F0 m pc ls rest) := by
  obtain ⟨h1, h2, h3, h4, h5, h6, h7, h8⟩ := h
  have hZ := E.2.2.2.2.2.2.2.2.2
  refine vx_throwS (names := ["java/lang/RuntimeException", "java/lang/Exception"]) E.1 E.2.1 hl0 E.2.2.2.1 h6 (by decide +kernel) (E.2.2.2.2.1 _ h1) (E.2.2.2.2.1 _ h2) (hZ.2.2.1 _ h3) (vx_hat (fun w hw => E.2.2.2.2.1 w (h4 w hw)) h8 (ngL_of hZ h5)) h7 hZ.1 hZ.2.1 hW.2.2 hsz d0 d3 d4 d6 d9 (fun x hx => (hxt x hx).elim) (Nat.lt_of_lt_of_le (by decide) hR1) (Nat.le_trans (Nat.add_le_add_right hst _) hR2) hRc hRs E.2.2.2.2.2.2.2.1 (fun U hU hz hq => ?_) hW.2.2.2.2 hq1 hq2
  refine ⟨t, trivial, ⟨hr, ?_⟩, ?_⟩
  · exact ⟨hW.1.kept (fun k q hk => hq q.1 (hW.1 k q hk).lt), hW.2.1⟩
  · exact ⟨Nat.le_trans hW.2.2.1 hz, fun q h9 h10 => (hq q (Nat.lt_of_lt_of_le h9 hW.2.2.1)).trans (hW.2.2.2.1 q h9 h10)⟩
theorem throwSW {α : Type} {ik is ic mcT mkT : Nat} {cls text : String} {G : α ⊕ String → TS → Prop} {Qc : Array Value → State → Outcome → State → Prop} (E : Ev X B p s m args meth c RX8 cc nL ret) (hl0 : l.stackTraces = false) (hxt : ∀ x ∈ c.exceptionTable.toList, False) (hW : Ws X B s.heap H locs t) (h : Th ik is ic cls text) (d0 : decode cc pc = .ok (.new ik, 3)) (d3 : decode cc (pc + 3) = .ok (.dup, 1)) (d4 : decode cc (pc + 4) = .ok (.ldc_w is, 3)) (d6 : decode cc (pc + 7) = .ok (.invokespecial ic, 3)) (d9 : decode cc (pc + 10) = .ok (.athrow, 1)) (hr : G (.inr cls) t) (hst : (rest.map fun v => v.category).sum ≤ 8) (hR1 : 6 ≤ R.frames) (hR2 : 90 ≤ R.locals) (hRc : cells + 1 ≤ R.cells) (hRs : slots + 6 ≤ R.slots) (hq1 : cells + 1 ≤ mcT) (hq2 : slots + 6 ≤ mkT) (hsz : ls.size = c.maxLocals) : W p l e R s m args below meth c H locs cells slots (vx_MQ below Qc (XCG X B G) args s mcT mkT (Ab B)) (F0 m pc ls rest) := by
  obtain ⟨h1, h2, h3, h4, h5, h6, h7, h8⟩ := h
  have hZ := E.2.2.2.2.2.2.2.2.2
  refine vx_throwSW (names := ["java/lang/RuntimeException", "java/lang/Exception"]) E.1 E.2.1 hl0 E.2.2.2.1 h6 (by decide +kernel) (E.2.2.2.2.1 _ h1) (E.2.2.2.2.1 _ h2) (hZ.2.2.1 _ h3) (vx_hat (fun w hw => E.2.2.2.2.1 w (h4 w hw)) h8 (ngL_of hZ h5)) h7 hZ.1 hZ.2.1 hW.2.2 hsz d0 d3 d4 d6 d9 (fun x hx => (hxt x hx).elim) (Nat.lt_of_lt_of_le (by decide) hR1) (Nat.le_trans (Nat.add_le_add_right hst _) hR2) hRc hRs E.2.2.2.2.2.2.2.1 (fun U hU hz hq => ?_) hW.2.2.2.2 hq1 hq2
  refine ⟨t, trivial, ⟨hr, ?_⟩, ?_⟩
  · exact ⟨hW.1.kept (fun k q hk => hq q.1 (hW.1 k q hk).lt), hW.2.1⟩
  · exact ⟨Nat.le_trans hW.2.2.1 hz, fun q h9 h10 => (hq q (Nat.lt_of_lt_of_le h9 hW.2.2.1)).trans (hW.2.2.2.1 q h9 h10)⟩
def ThN (ik is : Nat) (text : String) : Prop := Cond.classLink RX8 ik "java/util/NoSuchElementException" ∈ BIG ∧ Cond.initialized "java/util/NoSuchElementException" ∈ BIG ∧ (is, text) ∈ strL ∧ (∀ w ∈ (nsL.filter vx_no).filter goodWord, w ∈ BIG) ∧ (∀ w ∈ Cond.classLink RX8 ik "java/util/NoSuchElementException" :: Cond.initialized "java/util/NoSuchElementException" :: nsL.filter vx_no, vx_ot w = true) ∧ ∀ w ∈ (nsL.filter vx_no).filter (fun w => !goodWord w), w ∈ ngL "java/util/NoSuchElementException"
theorem throwN {α : Type} {ik is mcT mkT : Nat} {text : String} {G : α ⊕ String → TS → Prop} {Qc : Array Value → State → Outcome → State → Prop} (E : Ev X B p s m args meth c RX8 cc nL ret) (hl0 : l.stackTraces = false) (hxt : ∀ x ∈ c.exceptionTable.toList, False) (hW : Ws X B s.heap H locs t) (h : ThN ik is text) (d0 : decode cc pc = .ok (.new ik, 3)) (d3 : decode cc (pc + 3) = .ok (.dup, 1)) (d4 : decode cc (pc + 4) = .ok (.ldc is, 2)) (d6 : decode cc (pc + 6) = .ok (.invokespecial 171, 3)) (d9 : decode cc (pc + 9) = .ok (.athrow, 1)) (hr : G (.inr "java/util/NoSuchElementException") t) (hst : (rest.map fun v => v.category).sum ≤ 8) (hR1 : 6 ≤ R.frames) (hR2 : 90 ≤ R.locals) (hRc : cells + 1 ≤ R.cells) (hRs : slots + 6 ≤ R.slots) (hq1 : cells + 1 ≤ mcT) (hq2 : slots + 6 ≤ mkT) (hsz : ls.size = c.maxLocals) : W p l e R s m args below meth c H locs cells slots (vx_MQ below Qc (XCG X B G) args s mcT mkT (Ab B)) (F0 m pc ls rest) := by
  obtain ⟨h1, h2, h3, h4, h7, h8⟩ := h
  have hZ := E.2.2.2.2.2.2.2.2.2
  refine ns_make E.1 E.2.1 hl0 E.2.2.2.1 (E.2.2.2.2.1 _ h1) (E.2.2.2.2.1 _ h2) (hZ.2.2.1 _ h3) (vx_hat (fun w hw => E.2.2.2.2.1 w (h4 w hw)) h8 (ngL_of hZ (by simp [excL]))) h7 hZ.1 hZ.2.1 hW.2.2 hsz d0 d3 d4 d6 (Nat.lt_of_lt_of_le (by decide) hR1) (Nat.le_trans (Nat.add_le_add_right hst _) hR2) hRc hRs (fun q H1 ce hz hk hce hcv hcl hS => ?_)
  refine ns_athrow E.1 E.2.1 d9 ?_
  exact vx_out (fun x hx => (hxt x hx).elim) E.2.2.2.2.2.2.2.1 hce hcv hcl (fun U hU _ => ⟨t, trivial, ⟨hr, by rw [hU]; exact hW.1.kept (fun k q hkq => hk q.1 (hW.1 k q hkq).lt), hW.2.1⟩, hS.F hU⟩) hS.2.2 hq1 hq2
theorem throwNW {α : Type} {ik is mcT mkT : Nat} {text : String} {G : α ⊕ String → TS → Prop} {Qc : Array Value → State → Outcome → State → Prop} (E : Ev X B p s m args meth c RX8 cc nL ret) (hl0 : l.stackTraces = false) (hxt : ∀ x ∈ c.exceptionTable.toList, False) (hW : Ws X B s.heap H locs t) (h : ThN ik is text) (d0 : decode cc pc = .ok (.new ik, 3)) (d3 : decode cc (pc + 3) = .ok (.dup, 1)) (d4 : decode cc (pc + 4) = .ok (.ldc_w is, 3)) (d6 : decode cc (pc + 7) = .ok (.invokespecial 171, 3)) (d9 : decode cc (pc + 10) = .ok (.athrow, 1)) (hr : G (.inr "java/util/NoSuchElementException") t) (hst : (rest.map fun v => v.category).sum ≤ 8) (hR1 : 6 ≤ R.frames) (hR2 : 90 ≤ R.locals) (hRc : cells + 1 ≤ R.cells) (hRs : slots + 6 ≤ R.slots) (hq1 : cells + 1 ≤ mcT) (hq2 : slots + 6 ≤ mkT) (hsz : ls.size = c.maxLocals) : W p l e R s m args below meth c H locs cells slots (vx_MQ below Qc (XCG X B G) args s mcT mkT (Ab B)) (F0 m pc ls rest) := by
  obtain ⟨h1, h2, h3, h4, h7, h8⟩ := h
  have hZ := E.2.2.2.2.2.2.2.2.2
  refine ns_makeW E.1 E.2.1 hl0 E.2.2.2.1 (E.2.2.2.2.1 _ h1) (E.2.2.2.2.1 _ h2) (hZ.2.2.1 _ h3) (vx_hat (fun w hw => E.2.2.2.2.1 w (h4 w hw)) h8 (ngL_of hZ (by simp [excL]))) h7 hZ.1 hZ.2.1 hW.2.2 hsz d0 d3 d4 d6 (Nat.lt_of_lt_of_le (by decide) hR1) (Nat.le_trans (Nat.add_le_add_right hst _) hR2) hRc hRs (fun q H1 ce hz hk hce hcv hcl hS => ?_)
  refine ns_athrow E.1 E.2.1 d9 ?_
  exact vx_out (fun x hx => (hxt x hx).elim) E.2.2.2.2.2.2.2.1 hce hcv hcl (fun U hU _ => ⟨t, trivial, ⟨hr, by rw [hU]; exact hW.1.kept (fun k q hkq => hk q.1 (hW.1 k q hkq).lt), hW.2.1⟩, hS.F hU⟩) hS.2.2 hq1 hq2
end CALLS
theorem km_X0_held_inst : Cond.instanceMethod yX0_held ∈ BIG := (bigm (inT2 (List.mem_of_getElem? (i := 0) rfl)) rfl)
theorem km_X0_held_sel : Cond.selects RX0 yX0_held yX0_held ∈ BIG := (bigm (inT2 (List.mem_of_getElem? (i := 1) rfl)) rfl)
theorem km_X0_held_code : Cond.code yX0_held cX0_held 1 (some .int) ∈ BIG := (bigm (inT2 (List.mem_of_getElem? (i := 2) rfl)) rfl)
theorem km_X0_forget_inst : Cond.instanceMethod yX0_forget ∈ BIG := (bigm (inT3 (List.mem_of_getElem? (i := 233) rfl)) rfl)
theorem km_X0_forget_sel : Cond.selects RX0 yX0_forget yX0_forget ∈ BIG := (bigm (inT3 (List.mem_of_getElem? (i := 234) rfl)) rfl)
theorem km_X0_forget_code : Cond.code yX0_forget cX0_forget 1 none ∈ BIG := (bigm (inT3 (List.mem_of_getElem? (i := 235) rfl)) rfl)
theorem km_X0_remember_inst : Cond.instanceMethod yX0_remember ∈ BIG := (bigm (inT4 (List.mem_of_getElem? (i := 16) rfl)) rfl)
theorem km_X0_remember_sel : Cond.selects RX0 yX0_remember yX0_remember ∈ BIG := (bigm (inT4 (List.mem_of_getElem? (i := 17) rfl)) rfl)
theorem km_X0_remember_code : Cond.code yX0_remember cX0_remember 3 none ∈ BIG := (bigm (inT4 (List.mem_of_getElem? (i := 18) rfl)) rfl)
theorem km_X0_latestAct_inst : Cond.instanceMethod yX0_latestAct ∈ BIG := (bigm (inT2 (List.mem_of_getElem? (i := 8) rfl)) rfl)
theorem km_X0_latestAct_sel : Cond.selects RX0 yX0_latestAct yX0_latestAct ∈ BIG := (bigm (inT2 (List.mem_of_getElem? (i := 9) rfl)) rfl)
theorem km_X0_latestAct_code : Cond.code yX0_latestAct cX0_latestAct 1 (some .int) ∈ BIG := (bigm (inT2 (List.mem_of_getElem? (i := 10) rfl)) rfl)
theorem km_X0_latestNumber_inst : Cond.instanceMethod yX0_latestNumber ∈ BIG := (bigm (inT2 (List.mem_of_getElem? (i := 12) rfl)) rfl)
theorem km_X0_latestNumber_sel : Cond.selects RX0 yX0_latestNumber yX0_latestNumber ∈ BIG := (bigm (inT2 (List.mem_of_getElem? (i := 13) rfl)) rfl)
theorem km_X0_latestNumber_code : Cond.code yX0_latestNumber cX0_latestNumber 1 (some .int) ∈ BIG := (bigm (inT2 (List.mem_of_getElem? (i := 14) rfl)) rfl)
theorem km_X0_dropLatest_inst : Cond.instanceMethod yX0_dropLatest ∈ BIG := (bigm (inT2 (List.mem_of_getElem? (i := 16) rfl)) rfl)
theorem km_X0_dropLatest_sel : Cond.selects RX0 yX0_dropLatest yX0_dropLatest ∈ BIG := (bigm (inT2 (List.mem_of_getElem? (i := 17) rfl)) rfl)
theorem km_X0_dropLatest_code : Cond.code yX0_dropLatest cX0_dropLatest 1 none ∈ BIG := (bigm (inT2 (List.mem_of_getElem? (i := 18) rfl)) rfl)
theorem km_X0_dropEldest_inst : Cond.instanceMethod yX0_dropEldest ∈ BIG := (bigm (inT4 (List.mem_of_getElem? (i := 21) rfl)) rfl)
theorem km_X0_dropEldest_sel : Cond.selects RX0 yX0_dropEldest yX0_dropEldest ∈ BIG := (bigm (inT0 (List.mem_of_getElem? (i := 31) rfl)) rfl)
theorem km_X0_dropEldest_code : Cond.code yX0_dropEldest cX0_dropEldest 2 none ∈ BIG := (bigm (inT4 (List.mem_of_getElem? (i := 22) rfl)) rfl)
theorem km_X1_init_inst : Cond.instanceMethod yX1_init ∈ BIG := (bigm (inT3 (List.mem_of_getElem? (i := 184) rfl)) rfl)
theorem km_X1_init_code : Cond.code yX1_init cX1_init 7 none ∈ BIG := (bigm (inT3 (List.mem_of_getElem? (i := 185) rfl)) rfl)
theorem km_X1_isOn_inst : Cond.instanceMethod yX1_isOn ∈ BIG := (bigm (inT3 (List.mem_of_getElem? (i := 229) rfl)) rfl)
theorem km_X1_isOn_sel : Cond.selects RX1 yX1_isOn yX1_isOn ∈ BIG := (bigm (inT3 (List.mem_of_getElem? (i := 230) rfl)) rfl)
theorem km_X1_isOn_code : Cond.code yX1_isOn cX1_isOn 2 (some .boolean) ∈ BIG := (bigm (inT3 (List.mem_of_getElem? (i := 231) rfl)) rfl)
theorem km_X2_size_inst : Cond.instanceMethod yX2_size ∈ BIG := (bigm (inT4 (List.mem_of_getElem? (i := 176) rfl)) rfl)
theorem km_X2_size_sel : Cond.selects RX2 yX2_size yX2_size ∈ BIG := (bigm (inT4 (List.mem_of_getElem? (i := 177) rfl)) rfl)
theorem km_X2_size_code : Cond.code yX2_size cX2_size 1 (some .int) ∈ BIG := (bigm (inT4 (List.mem_of_getElem? (i := 178) rfl)) rfl)
theorem km_X2_numberAt_inst : Cond.instanceMethod yX2_numberAt ∈ BIG := (bigm (inT1 (List.mem_of_getElem? (i := 220) rfl)) rfl)
theorem km_X2_numberAt_sel : Cond.selects RX2 yX2_numberAt yX2_numberAt ∈ BIG := (bigm (inT1 (List.mem_of_getElem? (i := 221) rfl)) rfl)
theorem km_X2_numberAt_code : Cond.code yX2_numberAt cX2_numberAt 2 (some .int) ∈ BIG := (bigm (inT1 (List.mem_of_getElem? (i := 222) rfl)) rfl)
theorem km_X2_clear_inst : Cond.instanceMethod yX2_clear ∈ BIG := (bigm (inT4 (List.mem_of_getElem? (i := 156) rfl)) rfl)
theorem km_X2_clear_sel : Cond.selects RX2 yX2_clear yX2_clear ∈ BIG := (bigm (inT4 (List.mem_of_getElem? (i := 157) rfl)) rfl)
theorem km_X2_clear_code : Cond.code yX2_clear cX2_clear 1 none ∈ BIG := (bigm (inT4 (List.mem_of_getElem? (i := 158) rfl)) rfl)
theorem km_X2_insert_inst : Cond.instanceMethod yX2_insert ∈ BIG := (bigm (inT4 (List.mem_of_getElem? (i := 164) rfl)) rfl)
theorem km_X2_insert_sel : Cond.selects RX2 yX2_insert yX2_insert ∈ BIG := (bigm (inT4 (List.mem_of_getElem? (i := 165) rfl)) rfl)
theorem km_X2_insert_code : Cond.code yX2_insert cX2_insert 5 none ∈ BIG := (bigm (inT4 (List.mem_of_getElem? (i := 166) rfl)) rfl)
theorem km_X2_goesAhead_inst : Cond.instanceMethod yX2_goesAhead ∈ BIG := (bigm (inT4 (List.mem_of_getElem? (i := 169) rfl)) rfl)
theorem km_X2_goesAhead_sel : Cond.selects RX2 yX2_goesAhead yX2_goesAhead ∈ BIG := (bigm (inT0 (List.mem_of_getElem? (i := 42) rfl)) rfl)
theorem km_X2_goesAhead_code : Cond.code yX2_goesAhead cX2_goesAhead 4 (some .boolean) ∈ BIG := (bigm (inT4 (List.mem_of_getElem? (i := 170) rfl)) rfl)
theorem km_X2_write_inst : Cond.instanceMethod yX2_write ∈ BIG := (bigm (inT4 (List.mem_of_getElem? (i := 173) rfl)) rfl)
theorem km_X2_write_sel : Cond.selects RX2 yX2_write yX2_write ∈ BIG := (bigm (inT0 (List.mem_of_getElem? (i := 43) rfl)) rfl)
theorem km_X2_write_code : Cond.code yX2_write cX2_write 5 none ∈ BIG := (bigm (inT4 (List.mem_of_getElem? (i := 174) rfl)) rfl)
theorem km_X3_signOf_static : Cond.static yX3_signOf ∈ BIG := (bigm (inT3 (List.mem_of_getElem? (i := 84) rfl)) rfl)
theorem km_X3_signOf_code : Cond.code yX3_signOf cX3_signOf 1 (some .int) ∈ BIG := (bigm (inT3 (List.mem_of_getElem? (i := 85) rfl)) rfl)
theorem km_X3_passes_static : Cond.static yX3_passes ∈ BIG := (bigm (inT3 (List.mem_of_getElem? (i := 88) rfl)) rfl)
theorem km_X3_passes_code : Cond.code yX3_passes cX3_passes 6 (some .boolean) ∈ BIG := (bigm (inT3 (List.mem_of_getElem? (i := 89) rfl)) rfl)
theorem km_X3_size_inst : Cond.instanceMethod yX3_size ∈ BIG := (bigm (inT3 (List.mem_of_getElem? (i := 60) rfl)) rfl)
theorem km_X3_size_sel : Cond.selects RX3 yX3_size yX3_size ∈ BIG := (bigm (inT3 (List.mem_of_getElem? (i := 61) rfl)) rfl)
theorem km_X3_size_code : Cond.code yX3_size cX3_size 1 (some .int) ∈ BIG := (bigm (inT3 (List.mem_of_getElem? (i := 62) rfl)) rfl)
theorem km_X3_stepAt_inst : Cond.instanceMethod yX3_stepAt ∈ BIG := (bigm (inT3 (List.mem_of_getElem? (i := 68) rfl)) rfl)
theorem km_X3_stepAt_sel : Cond.selects RX3 yX3_stepAt yX3_stepAt ∈ BIG := (bigm (inT3 (List.mem_of_getElem? (i := 69) rfl)) rfl)
theorem km_X3_stepAt_code : Cond.code yX3_stepAt cX3_stepAt 2 (some .int) ∈ BIG := (bigm (inT3 (List.mem_of_getElem? (i := 70) rfl)) rfl)
theorem km_X3_read_inst : Cond.instanceMethod yX3_read ∈ BIG := (bigm (inT2 (List.mem_of_getElem? (i := 239) rfl)) rfl)
theorem km_X3_read_sel : Cond.selects RX3 yX3_read yX3_read ∈ BIG := (bigm (inT3 (List.mem_of_getElem? (i := 0) rfl)) rfl)
theorem km_X3_read_code : Cond.code yX3_read cX3_read 4 (some .int) ∈ BIG := (bigm (inT3 (List.mem_of_getElem? (i := 1) rfl)) rfl)
theorem km_X3_readAny_inst : Cond.instanceMethod yX3_readAny ∈ BIG := (bigm (inT3 (List.mem_of_getElem? (i := 10) rfl)) rfl)
theorem km_X3_readAny_sel : Cond.selects RX3 yX3_readAny yX3_readAny ∈ BIG := (bigm (inT0 (List.mem_of_getElem? (i := 11) rfl)) rfl)
theorem km_X3_readAny_code : Cond.code yX3_readAny cX3_readAny 3 none ∈ BIG := (bigm (inT3 (List.mem_of_getElem? (i := 11) rfl)) rfl)
theorem km_X3_readAll_inst : Cond.instanceMethod yX3_readAll ∈ BIG := (bigm (inT3 (List.mem_of_getElem? (i := 14) rfl)) rfl)
theorem km_X3_readAll_sel : Cond.selects RX3 yX3_readAll yX3_readAll ∈ BIG := (bigm (inT0 (List.mem_of_getElem? (i := 12) rfl)) rfl)
theorem km_X3_readAll_code : Cond.code yX3_readAll cX3_readAll 3 none ∈ BIG := (bigm (inT3 (List.mem_of_getElem? (i := 15) rfl)) rfl)
theorem km_X3_readUnit_inst : Cond.instanceMethod yX3_readUnit ∈ BIG := (bigm (inT3 (List.mem_of_getElem? (i := 18) rfl)) rfl)
theorem km_X3_readUnit_sel : Cond.selects RX3 yX3_readUnit yX3_readUnit ∈ BIG := (bigm (inT0 (List.mem_of_getElem? (i := 13) rfl)) rfl)
theorem km_X3_readUnit_code : Cond.code yX3_readUnit cX3_readUnit 2 none ∈ BIG := (bigm (inT3 (List.mem_of_getElem? (i := 19) rfl)) rfl)
theorem km_X3_readTest_inst : Cond.instanceMethod yX3_readTest ∈ BIG := (bigm (inT3 (List.mem_of_getElem? (i := 42) rfl)) rfl)
theorem km_X3_readTest_sel : Cond.selects RX3 yX3_readTest yX3_readTest ∈ BIG := (bigm (inT0 (List.mem_of_getElem? (i := 19) rfl)) rfl)
theorem km_X3_readTest_code : Cond.code yX3_readTest cX3_readTest 2 none ∈ BIG := (bigm (inT3 (List.mem_of_getElem? (i := 43) rfl)) rfl)
theorem km_X3_readNumber_inst : Cond.instanceMethod yX3_readNumber ∈ BIG := (bigm (inT3 (List.mem_of_getElem? (i := 46) rfl)) rfl)
theorem km_X3_readNumber_sel : Cond.selects RX3 yX3_readNumber yX3_readNumber ∈ BIG := (bigm (inT0 (List.mem_of_getElem? (i := 20) rfl)) rfl)
theorem km_X3_readNumber_code : Cond.code yX3_readNumber cX3_readNumber 4 (some .int) ∈ BIG := (bigm (inT3 (List.mem_of_getElem? (i := 47) rfl)) rfl)
theorem km_X3_readLetter_inst : Cond.instanceMethod yX3_readLetter ∈ BIG := (bigm (inT3 (List.mem_of_getElem? (i := 53) rfl)) rfl)
theorem km_X3_readLetter_sel : Cond.selects RX3 yX3_readLetter yX3_readLetter ∈ BIG := (bigm (inT0 (List.mem_of_getElem? (i := 21) rfl)) rfl)
theorem km_X3_readLetter_code : Cond.code yX3_readLetter cX3_readLetter 2 (some .int) ∈ BIG := (bigm (inT3 (List.mem_of_getElem? (i := 54) rfl)) rfl)
theorem km_X3_isDigit_static : Cond.static yX3_isDigit ∈ BIG := (bigm (inT3 (List.mem_of_getElem? (i := 49) rfl)) rfl)
theorem km_X3_isDigit_code : Cond.code yX3_isDigit cX3_isDigit 1 (some .boolean) ∈ BIG := (bigm (inT3 (List.mem_of_getElem? (i := 50) rfl)) rfl)
theorem km_X3_comes_inst : Cond.instanceMethod yX3_comes ∈ BIG := (bigm (inT3 (List.mem_of_getElem? (i := 22) rfl)) rfl)
theorem km_X3_comes_sel : Cond.selects RX3 yX3_comes yX3_comes ∈ BIG := (bigm (inT0 (List.mem_of_getElem? (i := 14) rfl)) rfl)
theorem km_X3_comes_code : Cond.code yX3_comes cX3_comes 2 (some .boolean) ∈ BIG := (bigm (inT3 (List.mem_of_getElem? (i := 23) rfl)) rfl)
theorem km_X3_must_inst : Cond.instanceMethod yX3_must ∈ BIG := (bigm (inT3 (List.mem_of_getElem? (i := 38) rfl)) rfl)
theorem km_X3_must_sel : Cond.selects RX3 yX3_must yX3_must ∈ BIG := (bigm (inT0 (List.mem_of_getElem? (i := 18) rfl)) rfl)
theorem km_X3_must_code : Cond.code yX3_must cX3_must 2 none ∈ BIG := (bigm (inT3 (List.mem_of_getElem? (i := 39) rfl)) rfl)
theorem km_X3_nextByte_inst : Cond.instanceMethod yX3_nextByte ∈ BIG := (bigm (inT3 (List.mem_of_getElem? (i := 26) rfl)) rfl)
theorem km_X3_nextByte_sel : Cond.selects RX3 yX3_nextByte yX3_nextByte ∈ BIG := (bigm (inT0 (List.mem_of_getElem? (i := 15) rfl)) rfl)
theorem km_X3_nextByte_code : Cond.code yX3_nextByte cX3_nextByte 1 (some .int) ∈ BIG := (bigm (inT3 (List.mem_of_getElem? (i := 27) rfl)) rfl)
theorem km_X3_byteHere_inst : Cond.instanceMethod yX3_byteHere ∈ BIG := (bigm (inT3 (List.mem_of_getElem? (i := 30) rfl)) rfl)
theorem km_X3_byteHere_sel : Cond.selects RX3 yX3_byteHere yX3_byteHere ∈ BIG := (bigm (inT0 (List.mem_of_getElem? (i := 16) rfl)) rfl)
theorem km_X3_byteHere_code : Cond.code yX3_byteHere cX3_byteHere 1 (some .int) ∈ BIG := (bigm (inT3 (List.mem_of_getElem? (i := 31) rfl)) rfl)
theorem km_X3_add_inst : Cond.instanceMethod yX3_add ∈ BIG := (bigm (inT3 (List.mem_of_getElem? (i := 34) rfl)) rfl)
theorem km_X3_add_sel : Cond.selects RX3 yX3_add yX3_add ∈ BIG := (bigm (inT0 (List.mem_of_getElem? (i := 17) rfl)) rfl)
theorem km_X3_add_code : Cond.code yX3_add cX3_add 4 none ∈ BIG := (bigm (inT3 (List.mem_of_getElem? (i := 35) rfl)) rfl)
theorem km_X4_made_inst : Cond.instanceMethod yX4_made ∈ BIG := (bigm (inT1 (List.mem_of_getElem? (i := 236) rfl)) rfl)
theorem km_X4_made_sel : Cond.selects RX4 yX4_made yX4_made ∈ BIG := (bigm (inT1 (List.mem_of_getElem? (i := 237) rfl)) rfl)
theorem km_X4_made_code : Cond.code yX4_made cX4_made 1 (some .int) ∈ BIG := (bigm (inT1 (List.mem_of_getElem? (i := 238) rfl)) rfl)
theorem km_X4_fed_inst : Cond.instanceMethod yX4_fed ∈ BIG := (bigm (inT1 (List.mem_of_getElem? (i := 212) rfl)) rfl)
theorem km_X4_fed_sel : Cond.selects RX4 yX4_fed yX4_fed ∈ BIG := (bigm (inT1 (List.mem_of_getElem? (i := 213) rfl)) rfl)
theorem km_X4_fed_code : Cond.code yX4_fed cX4_fed 1 (some .int) ∈ BIG := (bigm (inT1 (List.mem_of_getElem? (i := 214) rfl)) rfl)
theorem km_X4_hasRoomToFeed_inst : Cond.instanceMethod yX4_hasRoomToFeed ∈ BIG := (bigm (inT1 (List.mem_of_getElem? (i := 204) rfl)) rfl)
theorem km_X4_hasRoomToFeed_sel : Cond.selects RX4 yX4_hasRoomToFeed yX4_hasRoomToFeed ∈ BIG := (bigm (inT1 (List.mem_of_getElem? (i := 205) rfl)) rfl)
theorem km_X4_hasRoomToFeed_code : Cond.code yX4_hasRoomToFeed cX4_hasRoomToFeed 1 (some .boolean) ∈ BIG := (bigm (inT1 (List.mem_of_getElem? (i := 206) rfl)) rfl)
theorem km_X4_append_inst : Cond.instanceMethod yX4_append ∈ BIG := (bigm (inT1 (List.mem_of_getElem? (i := 208) rfl)) rfl)
theorem km_X4_append_sel : Cond.selects RX4 yX4_append yX4_append ∈ BIG := (bigm (inT1 (List.mem_of_getElem? (i := 209) rfl)) rfl)
theorem km_X4_append_code : Cond.code yX4_append cX4_append 3 none ∈ BIG := (bigm (inT1 (List.mem_of_getElem? (i := 210) rfl)) rfl)
theorem km_X4_readTape_inst : Cond.instanceMethod yX4_readTape ∈ BIG := (bigm (inT2 (List.mem_of_getElem? (i := 235) rfl)) rfl)
theorem km_X4_readTape_sel : Cond.selects RX4 yX4_readTape yX4_readTape ∈ BIG := (bigm (inT2 (List.mem_of_getElem? (i := 236) rfl)) rfl)
theorem km_X4_readTape_code : Cond.code yX4_readTape cX4_readTape 3 (some .int) ∈ BIG := (bigm (inT2 (List.mem_of_getElem? (i := 237) rfl)) rfl)
theorem km_X4_keep_inst : Cond.instanceMethod yX4_keep ∈ BIG := (bigm (inT3 (List.mem_of_getElem? (i := 57) rfl)) rfl)
theorem km_X4_keep_sel : Cond.selects RX4 yX4_keep yX4_keep ∈ BIG := (bigm (inT0 (List.mem_of_getElem? (i := 22) rfl)) rfl)
theorem km_X4_keep_code : Cond.code yX4_keep cX4_keep 3 none ∈ BIG := (bigm (inT3 (List.mem_of_getElem? (i := 58) rfl)) rfl)
theorem km_X4_stepPlace_inst : Cond.instanceMethod yX4_stepPlace ∈ BIG := (bigm (inT3 (List.mem_of_getElem? (i := 65) rfl)) rfl)
theorem km_X4_stepPlace_sel : Cond.selects RX4 yX4_stepPlace yX4_stepPlace ∈ BIG := (bigm (inT0 (List.mem_of_getElem? (i := 23) rfl)) rfl)
theorem km_X4_stepPlace_code : Cond.code yX4_stepPlace cX4_stepPlace 4 (some .int) ∈ BIG := (bigm (inT3 (List.mem_of_getElem? (i := 66) rfl)) rfl)
theorem km_X4_holds_inst : Cond.instanceMethod yX4_holds ∈ BIG := (bigm (inT3 (List.mem_of_getElem? (i := 80) rfl)) rfl)
theorem km_X4_holds_sel : Cond.selects RX4 yX4_holds yX4_holds ∈ BIG := (bigm (inT3 (List.mem_of_getElem? (i := 81) rfl)) rfl)
theorem km_X4_holds_code : Cond.code yX4_holds cX4_holds 11 (some .boolean) ∈ BIG := (bigm (inT3 (List.mem_of_getElem? (i := 82) rfl)) rfl)
theorem km_X5_init_inst : Cond.instanceMethod yX5_init ∈ BIG := (bigm (inT4 (List.mem_of_getElem? (i := 58) rfl)) rfl)
theorem km_X5_init_code : Cond.code yX5_init cX5_init 4 none ∈ BIG := (bigm (inT4 (List.mem_of_getElem? (i := 59) rfl)) rfl)
theorem km_X6_isModel_static : Cond.static yX6_isModel ∈ BIG := (bigm (inT3 (List.mem_of_getElem? (i := 99) rfl)) rfl)
theorem km_X6_isModel_code : Cond.code yX6_isModel cX6_isModel 1 (some .boolean) ∈ BIG := (bigm (inT3 (List.mem_of_getElem? (i := 100) rfl)) rfl)
theorem km_X6_partsOf_inst : Cond.instanceMethod yX6_partsOf ∈ BIG := (bigm (inT2 (List.mem_of_getElem? (i := 47) rfl)) rfl)
theorem km_X6_partsOf_sel : Cond.selects RX6 yX6_partsOf yX6_partsOf ∈ BIG := (bigm (inT2 (List.mem_of_getElem? (i := 48) rfl)) rfl)
theorem km_X6_partsOf_code : Cond.code yX6_partsOf cX6_partsOf 2 (some .int) ∈ BIG := (bigm (inT2 (List.mem_of_getElem? (i := 49) rfl)) rfl)
theorem km_X6_add_inst : Cond.instanceMethod yX6_add ∈ BIG := (bigm (inT3 (List.mem_of_getElem? (i := 140) rfl)) rfl)
theorem km_X6_add_sel : Cond.selects RX6 yX6_add yX6_add ∈ BIG := (bigm (inT3 (List.mem_of_getElem? (i := 141) rfl)) rfl)
theorem km_X6_add_code : Cond.code yX6_add cX6_add 3 (some .int) ∈ BIG := (bigm (inT3 (List.mem_of_getElem? (i := 142) rfl)) rfl)
theorem km_X6_factOf_inst : Cond.instanceMethod yX6_factOf ∈ BIG := (bigm (inT2 (List.mem_of_getElem? (i := 39) rfl)) rfl)
theorem km_X6_factOf_sel : Cond.selects RX6 yX6_factOf yX6_factOf ∈ BIG := (bigm (inT2 (List.mem_of_getElem? (i := 40) rfl)) rfl)
theorem km_X6_factOf_code : Cond.code yX6_factOf cX6_factOf 5 (some .int) ∈ BIG := (bigm (inT2 (List.mem_of_getElem? (i := 41) rfl)) rfl)
theorem km_X6_store_inst : Cond.instanceMethod yX6_store ∈ BIG := (bigm (inT3 (List.mem_of_getElem? (i := 144) rfl)) rfl)
theorem km_X6_store_sel : Cond.selects RX6 yX6_store yX6_store ∈ BIG := (bigm (inT3 (List.mem_of_getElem? (i := 145) rfl)) rfl)
theorem km_X6_store_code : Cond.code yX6_store cX6_store 6 none ∈ BIG := (bigm (inT3 (List.mem_of_getElem? (i := 146) rfl)) rfl)
theorem km_X6_hasShell_inst : Cond.instanceMethod yX6_hasShell ∈ BIG := (bigm (inT3 (List.mem_of_getElem? (i := 131) rfl)) rfl)
theorem km_X6_hasShell_sel : Cond.selects RX6 yX6_hasShell yX6_hasShell ∈ BIG := (bigm (inT3 (List.mem_of_getElem? (i := 132) rfl)) rfl)
theorem km_X6_hasShell_code : Cond.code yX6_hasShell cX6_hasShell 3 (some .boolean) ∈ BIG := (bigm (inT3 (List.mem_of_getElem? (i := 133) rfl)) rfl)
theorem km_X6_placeOf_inst : Cond.instanceMethod yX6_placeOf ∈ BIG := (bigm (inT2 (List.mem_of_getElem? (i := 44) rfl)) rfl)
theorem km_X6_placeOf_sel : Cond.selects RX6 yX6_placeOf yX6_placeOf ∈ BIG := (bigm (inT0 (List.mem_of_getElem? (i := 4) rfl)) rfl)
theorem km_X6_placeOf_code : Cond.code yX6_placeOf cX6_placeOf 6 (some .int) ∈ BIG := (bigm (inT2 (List.mem_of_getElem? (i := 45) rfl)) rfl)
theorem km_X7_isWidth_static : Cond.static yX7_isWidth ∈ BIG := (bigm (inT2 (List.mem_of_getElem? (i := 68) rfl)) rfl)
theorem km_X7_isWidth_code : Cond.code yX7_isWidth cX7_isWidth 1 (some .boolean) ∈ BIG := (bigm (inT2 (List.mem_of_getElem? (i := 69) rfl)) rfl)
theorem km_X7_made_inst : Cond.instanceMethod yX7_made ∈ BIG := (bigm (inT1 (List.mem_of_getElem? (i := 232) rfl)) rfl)
theorem km_X7_made_sel : Cond.selects RX7 yX7_made yX7_made ∈ BIG := (bigm (inT1 (List.mem_of_getElem? (i := 233) rfl)) rfl)
theorem km_X7_made_code : Cond.code yX7_made cX7_made 1 (some .int) ∈ BIG := (bigm (inT1 (List.mem_of_getElem? (i := 234) rfl)) rfl)
theorem km_X7_open_inst : Cond.instanceMethod yX7_open ∈ BIG := (bigm (inT2 (List.mem_of_getElem? (i := 139) rfl)) rfl)
theorem km_X7_open_sel : Cond.selects RX7 yX7_open yX7_open ∈ BIG := (bigm (inT2 (List.mem_of_getElem? (i := 140) rfl)) rfl)
theorem km_X7_open_code : Cond.code yX7_open cX7_open 2 (some .int) ∈ BIG := (bigm (inT2 (List.mem_of_getElem? (i := 141) rfl)) rfl)
theorem km_X7_slotAt_inst : Cond.instanceMethod yX7_slotAt ∈ BIG := (bigm (inT2 (List.mem_of_getElem? (i := 171) rfl)) rfl)
theorem km_X7_slotAt_sel : Cond.selects RX7 yX7_slotAt yX7_slotAt ∈ BIG := (bigm (inT2 (List.mem_of_getElem? (i := 172) rfl)) rfl)
theorem km_X7_slotAt_code : Cond.code yX7_slotAt cX7_slotAt 3 (some .int) ∈ BIG := (bigm (inT2 (List.mem_of_getElem? (i := 173) rfl)) rfl)
theorem km_X7_lengthAt_inst : Cond.instanceMethod yX7_lengthAt ∈ BIG := (bigm (inT2 (List.mem_of_getElem? (i := 203) rfl)) rfl)
theorem km_X7_lengthAt_sel : Cond.selects RX7 yX7_lengthAt yX7_lengthAt ∈ BIG := (bigm (inT2 (List.mem_of_getElem? (i := 204) rfl)) rfl)
theorem km_X7_lengthAt_code : Cond.code yX7_lengthAt cX7_lengthAt 2 (some .int) ∈ BIG := (bigm (inT2 (List.mem_of_getElem? (i := 205) rfl)) rfl)
theorem km_X7_renew_inst : Cond.instanceMethod yX7_renew ∈ BIG := (bigm (inT2 (List.mem_of_getElem? (i := 191) rfl)) rfl)
theorem km_X7_renew_sel : Cond.selects RX7 yX7_renew yX7_renew ∈ BIG := (bigm (inT2 (List.mem_of_getElem? (i := 192) rfl)) rfl)
theorem km_X7_renew_code : Cond.code yX7_renew cX7_renew 4 none ∈ BIG := (bigm (inT2 (List.mem_of_getElem? (i := 193) rfl)) rfl)
theorem km_X7_write_inst : Cond.instanceMethod yX7_write ∈ BIG := (bigm (inT2 (List.mem_of_getElem? (i := 195) rfl)) rfl)
theorem km_X7_write_sel : Cond.selects RX7 yX7_write yX7_write ∈ BIG := (bigm (inT2 (List.mem_of_getElem? (i := 196) rfl)) rfl)
theorem km_X7_write_code : Cond.code yX7_write cX7_write 6 (some .boolean) ∈ BIG := (bigm (inT2 (List.mem_of_getElem? (i := 197) rfl)) rfl)
theorem km_X7_read_inst : Cond.instanceMethod yX7_read ∈ BIG := (bigm (inT3 (List.mem_of_getElem? (i := 111) rfl)) rfl)
theorem km_X7_read_sel : Cond.selects RX7 yX7_read yX7_read ∈ BIG := (bigm (inT3 (List.mem_of_getElem? (i := 112) rfl)) rfl)
theorem km_X7_read_code : Cond.code yX7_read cX7_read 4 (some .long) ∈ BIG := (bigm (inT3 (List.mem_of_getElem? (i := 113) rfl)) rfl)
theorem km_X7_placeOf_inst : Cond.instanceMethod yX7_placeOf ∈ BIG := (bigm (inT2 (List.mem_of_getElem? (i := 200) rfl)) rfl)
theorem km_X7_placeOf_sel : Cond.selects RX7 yX7_placeOf yX7_placeOf ∈ BIG := (bigm (inT0 (List.mem_of_getElem? (i := 9) rfl)) rfl)
theorem km_X7_placeOf_code : Cond.code yX7_placeOf cX7_placeOf 4 (some .int) ∈ BIG := (bigm (inT2 (List.mem_of_getElem? (i := 201) rfl)) rfl)
theorem km_X7_lowestBits_inst : Cond.instanceMethod yX7_lowestBits ∈ BIG := (bigm (inT2 (List.mem_of_getElem? (i := 208) rfl)) rfl)
theorem km_X7_lowestBits_sel : Cond.selects RX7 yX7_lowestBits yX7_lowestBits ∈ BIG := (bigm (inT0 (List.mem_of_getElem? (i := 10) rfl)) rfl)
theorem km_X7_lowestBits_code : Cond.code yX7_lowestBits cX7_lowestBits 6 (some .long) ∈ BIG := (bigm (inT2 (List.mem_of_getElem? (i := 209) rfl)) rfl)
theorem km_X8_sheet_inst : Cond.instanceMethod yX8_sheet ∈ BIG := (bigm (inT2 (List.mem_of_getElem? (i := 64) rfl)) rfl)
theorem km_X8_sheet_sel : Cond.selects RX8 yX8_sheet yX8_sheet ∈ BIG := (bigm (inT2 (List.mem_of_getElem? (i := 65) rfl)) rfl)
theorem km_X8_sheet_code : Cond.code yX8_sheet cX8_sheet 3 (some .int) ∈ BIG := (bigm (inT2 (List.mem_of_getElem? (i := 66) rfl)) rfl)
theorem km_X8_row_inst : Cond.instanceMethod yX8_row ∈ BIG := (bigm (inT2 (List.mem_of_getElem? (i := 163) rfl)) rfl)
theorem km_X8_row_sel : Cond.selects RX8 yX8_row yX8_row ∈ BIG := (bigm (inT2 (List.mem_of_getElem? (i := 164) rfl)) rfl)
theorem km_X8_row_code : Cond.code yX8_row cX8_row 5 (some .int) ∈ BIG := (bigm (inT2 (List.mem_of_getElem? (i := 165) rfl)) rfl)
theorem km_X8_put_inst : Cond.instanceMethod yX8_put ∈ BIG := (bigm (inT2 (List.mem_of_getElem? (i := 214) rfl)) rfl)
theorem km_X8_put_sel : Cond.selects RX8 yX8_put yX8_put ∈ BIG := (bigm (inT2 (List.mem_of_getElem? (i := 215) rfl)) rfl)
theorem km_X8_put_code : Cond.code yX8_put cX8_put 7 (some .int) ∈ BIG := (bigm (inT2 (List.mem_of_getElem? (i := 216) rfl)) rfl)
theorem km_X8_tear_inst : Cond.instanceMethod yX8_tear ∈ BIG := (bigm (inT2 (List.mem_of_getElem? (i := 223) rfl)) rfl)
theorem km_X8_tear_sel : Cond.selects RX8 yX8_tear yX8_tear ∈ BIG := (bigm (inT2 (List.mem_of_getElem? (i := 224) rfl)) rfl)
theorem km_X8_tear_code : Cond.code yX8_tear cX8_tear 4 (some .int) ∈ BIG := (bigm (inT2 (List.mem_of_getElem? (i := 225) rfl)) rfl)
theorem km_X8_slotOf_inst : Cond.instanceMethod yX8_slotOf ∈ BIG := (bigm (inT2 (List.mem_of_getElem? (i := 168) rfl)) rfl)
theorem km_X8_slotOf_sel : Cond.selects RX8 yX8_slotOf yX8_slotOf ∈ BIG := (bigm (inT0 (List.mem_of_getElem? (i := 8) rfl)) rfl)
theorem km_X8_slotOf_code : Cond.code yX8_slotOf cX8_slotOf 4 (some .int) ∈ BIG := (bigm (inT2 (List.mem_of_getElem? (i := 169) rfl)) rfl)
theorem km_X8_feed_inst : Cond.instanceMethod yX8_feed ∈ BIG := (bigm (inT1 (List.mem_of_getElem? (i := 200) rfl)) rfl)
theorem km_X8_feed_sel : Cond.selects RX8 yX8_feed yX8_feed ∈ BIG := (bigm (inT1 (List.mem_of_getElem? (i := 201) rfl)) rfl)
theorem km_X8_feed_code : Cond.code yX8_feed cX8_feed 6 (some .int) ∈ BIG := (bigm (inT1 (List.mem_of_getElem? (i := 202) rfl)) rfl)
theorem km_X8_fit_inst : Cond.instanceMethod yX8_fit ∈ BIG := (bigm (inT2 (List.mem_of_getElem? (i := 230) rfl)) rfl)
theorem km_X8_fit_sel : Cond.selects RX8 yX8_fit yX8_fit ∈ BIG := (bigm (inT2 (List.mem_of_getElem? (i := 231) rfl)) rfl)
theorem km_X8_fit_code : Cond.code yX8_fit cX8_fit 2 (some .int) ∈ BIG := (bigm (inT2 (List.mem_of_getElem? (i := 232) rfl)) rfl)
theorem km_X8_says_inst : Cond.instanceMethod yX8_says ∈ BIG := (bigm (inT3 (List.mem_of_getElem? (i := 75) rfl)) rfl)
theorem km_X8_says_sel : Cond.selects RX8 yX8_says yX8_says ∈ BIG := (bigm (inT3 (List.mem_of_getElem? (i := 76) rfl)) rfl)
theorem km_X8_says_code : Cond.code yX8_says cX8_says 5 (some .boolean) ∈ BIG := (bigm (inT3 (List.mem_of_getElem? (i := 77) rfl)) rfl)
theorem km_X8_part_inst : Cond.instanceMethod yX8_part ∈ BIG := (bigm (inT3 (List.mem_of_getElem? (i := 95) rfl)) rfl)
theorem km_X8_part_sel : Cond.selects RX8 yX8_part yX8_part ∈ BIG := (bigm (inT3 (List.mem_of_getElem? (i := 96) rfl)) rfl)
theorem km_X8_part_code : Cond.code yX8_part cX8_part 6 (some .int) ∈ BIG := (bigm (inT3 (List.mem_of_getElem? (i := 97) rfl)) rfl)
theorem km_X8_told_inst : Cond.instanceMethod yX8_told ∈ BIG := (bigm (inT3 (List.mem_of_getElem? (i := 152) rfl)) rfl)
theorem km_X8_told_sel : Cond.selects RX8 yX8_told yX8_told ∈ BIG := (bigm (inT3 (List.mem_of_getElem? (i := 153) rfl)) rfl)
theorem km_X8_told_code : Cond.code yX8_told cX8_told 4 (some .int) ∈ BIG := (bigm (inT3 (List.mem_of_getElem? (i := 154) rfl)) rfl)
theorem km_X8_rowSays_inst : Cond.instanceMethod yX8_rowSays ∈ BIG := (bigm (inT3 (List.mem_of_getElem? (i := 108) rfl)) rfl)
theorem km_X8_rowSays_sel : Cond.selects RX8 yX8_rowSays yX8_rowSays ∈ BIG := (bigm (inT0 (List.mem_of_getElem? (i := 25) rfl)) rfl)
theorem km_X8_rowSays_code : Cond.code yX8_rowSays cX8_rowSays 3 (some .long) ∈ BIG := (bigm (inT3 (List.mem_of_getElem? (i := 109) rfl)) rfl)
theorem km_X8_hasNumberBeyond_inst : Cond.instanceMethod yX8_hasNumberBeyond ∈ BIG := (bigm (inT3 (List.mem_of_getElem? (i := 104) rfl)) rfl)
theorem km_X8_hasNumberBeyond_sel : Cond.selects RX8 yX8_hasNumberBeyond yX8_hasNumberBeyond ∈ BIG := (bigm (inT0 (List.mem_of_getElem? (i := 24) rfl)) rfl)
theorem km_X8_hasNumberBeyond_code : Cond.code yX8_hasNumberBeyond cX8_hasNumberBeyond 4 (some .boolean) ∈ BIG := (bigm (inT3 (List.mem_of_getElem? (i := 105) rfl)) rfl)
theorem km_X8_isBeyond_inst : Cond.instanceMethod yX8_isBeyond ∈ BIG := (bigm (inT3 (List.mem_of_getElem? (i := 117) rfl)) rfl)
theorem km_X8_isBeyond_sel : Cond.selects RX8 yX8_isBeyond yX8_isBeyond ∈ BIG := (bigm (inT0 (List.mem_of_getElem? (i := 26) rfl)) rfl)
theorem km_X8_isBeyond_code : Cond.code yX8_isBeyond cX8_isBeyond 5 (some .boolean) ∈ BIG := (bigm (inT3 (List.mem_of_getElem? (i := 118) rfl)) rfl)
theorem km_X8_breaksShellRule_inst : Cond.instanceMethod yX8_breaksShellRule ∈ BIG := (bigm (inT3 (List.mem_of_getElem? (i := 128) rfl)) rfl)
theorem km_X8_breaksShellRule_sel : Cond.selects RX8 yX8_breaksShellRule yX8_breaksShellRule ∈ BIG := (bigm (inT0 (List.mem_of_getElem? (i := 27) rfl)) rfl)
theorem km_X8_breaksShellRule_code : Cond.code yX8_breaksShellRule cX8_breaksShellRule 4 (some .boolean) ∈ BIG := (bigm (inT3 (List.mem_of_getElem? (i := 129) rfl)) rfl)
theorem km_X8_addPart_inst : Cond.instanceMethod yX8_addPart ∈ BIG := (bigm (inT3 (List.mem_of_getElem? (i := 137) rfl)) rfl)
theorem km_X8_addPart_sel : Cond.selects RX8 yX8_addPart yX8_addPart ∈ BIG := (bigm (inT0 (List.mem_of_getElem? (i := 28) rfl)) rfl)
theorem km_X8_addPart_code : Cond.code yX8_addPart cX8_addPart 5 (some .int) ∈ BIG := (bigm (inT3 (List.mem_of_getElem? (i := 138) rfl)) rfl)
theorem km_X8_car_inst : Cond.instanceMethod yX8_car ∈ BIG := (bigm (inT3 (List.mem_of_getElem? (i := 176) rfl)) rfl)
theorem km_X8_car_sel : Cond.selects RX8 yX8_car yX8_car ∈ BIG := (bigm (inT3 (List.mem_of_getElem? (i := 177) rfl)) rfl)
theorem km_X8_car_code : Cond.code yX8_car cX8_car 8 (some .int) ∈ BIG := (bigm (inT3 (List.mem_of_getElem? (i := 178) rfl)) rfl)
theorem km_X8_about_inst : Cond.instanceMethod yX8_about ∈ BIG := (bigm (inT4 (List.mem_of_getElem? (i := 0) rfl)) rfl)
theorem km_X8_about_sel : Cond.selects RX8 yX8_about yX8_about ∈ BIG := (bigm (inT4 (List.mem_of_getElem? (i := 1) rfl)) rfl)
theorem km_X8_about_code : Cond.code yX8_about cX8_about 4 (some .int) ∈ BIG := (bigm (inT4 (List.mem_of_getElem? (i := 2) rfl)) rfl)
theorem km_X8_drain_inst : Cond.instanceMethod yX8_drain ∈ BIG := (bigm (inT4 (List.mem_of_getElem? (i := 12) rfl)) rfl)
theorem km_X8_drain_sel : Cond.selects RX8 yX8_drain yX8_drain ∈ BIG := (bigm (inT4 (List.mem_of_getElem? (i := 13) rfl)) rfl)
theorem km_X8_drain_code : Cond.code yX8_drain cX8_drain 3 (some .int) ∈ BIG := (bigm (inT4 (List.mem_of_getElem? (i := 14) rfl)) rfl)
theorem km_X8_papers_inst : Cond.instanceMethod yX8_papers ∈ BIG := (bigm (inT4 (List.mem_of_getElem? (i := 27) rfl)) rfl)
theorem km_X8_papers_sel : Cond.selects RX8 yX8_papers yX8_papers ∈ BIG := (bigm (inT4 (List.mem_of_getElem? (i := 28) rfl)) rfl)
theorem km_X8_papers_code : Cond.code yX8_papers cX8_papers 3 (some .int) ∈ BIG := (bigm (inT4 (List.mem_of_getElem? (i := 29) rfl)) rfl)
theorem km_X8_carAt_inst : Cond.instanceMethod yX8_carAt ∈ BIG := (bigm (inT2 (List.mem_of_getElem? (i := 56) rfl)) rfl)
theorem km_X8_carAt_sel : Cond.selects RX8 yX8_carAt yX8_carAt ∈ BIG := (bigm (inT0 (List.mem_of_getElem? (i := 6) rfl)) rfl)
theorem km_X8_carAt_code : Cond.code yX8_carAt cX8_carAt 2 (some (.object "BreakersYard$Car")) ∈ BIG := (bigm (inT2 (List.mem_of_getElem? (i := 57) rfl)) rfl)
theorem km_X8_carOf_inst : Cond.instanceMethod yX8_carOf ∈ BIG := (bigm (inT4 (List.mem_of_getElem? (i := 5) rfl)) rfl)
theorem km_X8_carOf_sel : Cond.selects RX8 yX8_carOf yX8_carOf ∈ BIG := (bigm (inT0 (List.mem_of_getElem? (i := 30) rfl)) rfl)
theorem km_X8_carOf_code : Cond.code yX8_carOf cX8_carOf 3 (some (.object "BreakersYard$Car")) ∈ BIG := (bigm (inT4 (List.mem_of_getElem? (i := 6) rfl)) rfl)
theorem km_X8_carWithPart_inst : Cond.instanceMethod yX8_carWithPart ∈ BIG := (bigm (inT4 (List.mem_of_getElem? (i := 39) rfl)) rfl)
theorem km_X8_carWithPart_sel : Cond.selects RX8 yX8_carWithPart yX8_carWithPart ∈ BIG := (bigm (inT0 (List.mem_of_getElem? (i := 32) rfl)) rfl)
theorem km_X8_carWithPart_code : Cond.code yX8_carWithPart cX8_carWithPart 4 (some (.object "BreakersYard$Car")) ∈ BIG := (bigm (inT4 (List.mem_of_getElem? (i := 40) rfl)) rfl)
theorem km_X8_weighComing_inst : Cond.instanceMethod yX8_weighComing ∈ BIG := (bigm (inT3 (List.mem_of_getElem? (i := 226) rfl)) rfl)
theorem km_X8_weighComing_sel : Cond.selects RX8 yX8_weighComing yX8_weighComing ∈ BIG := (bigm (inT0 (List.mem_of_getElem? (i := 29) rfl)) rfl)
theorem km_X8_weighComing_code : Cond.code yX8_weighComing cX8_weighComing 3 none ∈ BIG := (bigm (inT3 (List.mem_of_getElem? (i := 227) rfl)) rfl)
theorem km_X8_hinders_inst : Cond.instanceMethod yX8_hinders ∈ BIG := (bigm (inT4 (List.mem_of_getElem? (i := 34) rfl)) rfl)
theorem km_X8_hinders_sel : Cond.selects RX8 yX8_hinders yX8_hinders ∈ BIG := (bigm (inT4 (List.mem_of_getElem? (i := 35) rfl)) rfl)
theorem km_X8_hinders_code : Cond.code yX8_hinders cX8_hinders 3 (some .int) ∈ BIG := (bigm (inT4 (List.mem_of_getElem? (i := 36) rfl)) rfl)
theorem km_X8_take_inst : Cond.instanceMethod yX8_take ∈ BIG := (bigm (inT4 (List.mem_of_getElem? (i := 53) rfl)) rfl)
theorem km_X8_take_sel : Cond.selects RX8 yX8_take yX8_take ∈ BIG := (bigm (inT4 (List.mem_of_getElem? (i := 54) rfl)) rfl)
theorem km_X8_take_code : Cond.code yX8_take cX8_take 6 (some .int) ∈ BIG := (bigm (inT4 (List.mem_of_getElem? (i := 55) rfl)) rfl)
theorem km_X8_press_inst : Cond.instanceMethod yX8_press ∈ BIG := (bigm (inT4 (List.mem_of_getElem? (i := 94) rfl)) rfl)
theorem km_X8_press_sel : Cond.selects RX8 yX8_press yX8_press ∈ BIG := (bigm (inT4 (List.mem_of_getElem? (i := 95) rfl)) rfl)
theorem km_X8_press_code : Cond.code yX8_press cX8_press 6 (some .int) ∈ BIG := (bigm (inT4 (List.mem_of_getElem? (i := 96) rfl)) rfl)
theorem km_X8_hindranceOf_inst : Cond.instanceMethod yX8_hindranceOf ∈ BIG := (bigm (inT4 (List.mem_of_getElem? (i := 44) rfl)) rfl)
theorem km_X8_hindranceOf_sel : Cond.selects RX8 yX8_hindranceOf yX8_hindranceOf ∈ BIG := (bigm (inT0 (List.mem_of_getElem? (i := 33) rfl)) rfl)
theorem km_X8_hindranceOf_code : Cond.code yX8_hindranceOf cX8_hindranceOf 5 (some .int) ∈ BIG := (bigm (inT4 (List.mem_of_getElem? (i := 45) rfl)) rfl)
theorem km_X8_pressHindranceOf_inst : Cond.instanceMethod yX8_pressHindranceOf ∈ BIG := (bigm (inT4 (List.mem_of_getElem? (i := 99) rfl)) rfl)
theorem km_X8_pressHindranceOf_sel : Cond.selects RX8 yX8_pressHindranceOf yX8_pressHindranceOf ∈ BIG := (bigm (inT0 (List.mem_of_getElem? (i := 35) rfl)) rfl)
theorem km_X8_pressHindranceOf_code : Cond.code yX8_pressHindranceOf cX8_pressHindranceOf 2 (some .int) ∈ BIG := (bigm (inT4 (List.mem_of_getElem? (i := 100) rfl)) rfl)
theorem km_X8_hasDangerOn_inst : Cond.instanceMethod yX8_hasDangerOn ∈ BIG := (bigm (inT4 (List.mem_of_getElem? (i := 103) rfl)) rfl)
theorem km_X8_hasDangerOn_sel : Cond.selects RX8 yX8_hasDangerOn yX8_hasDangerOn ∈ BIG := (bigm (inT0 (List.mem_of_getElem? (i := 36) rfl)) rfl)
theorem km_X8_hasDangerOn_code : Cond.code yX8_hasDangerOn cX8_hasDangerOn 3 (some .boolean) ∈ BIG := (bigm (inT4 (List.mem_of_getElem? (i := 104) rfl)) rfl)
theorem km_X8_needsDraining_static : Cond.static yX8_needsDraining ∈ BIG := (bigm (inT4 (List.mem_of_getElem? (i := 47) rfl)) rfl)
theorem km_X8_needsDraining_code : Cond.code yX8_needsDraining cX8_needsDraining 1 (some .boolean) ∈ BIG := (bigm (inT4 (List.mem_of_getElem? (i := 48) rfl)) rfl)
theorem km_X8_day_inst : Cond.instanceMethod yX8_day ∈ BIG := (bigm (inT4 (List.mem_of_getElem? (i := 109) rfl)) rfl)
theorem km_X8_day_sel : Cond.selects RX8 yX8_day yX8_day ∈ BIG := (bigm (inT4 (List.mem_of_getElem? (i := 110) rfl)) rfl)
theorem km_X8_day_code : Cond.code yX8_day cX8_day 2 (some .int) ∈ BIG := (bigm (inT4 (List.mem_of_getElem? (i := 111) rfl)) rfl)
theorem km_X8_late_inst : Cond.instanceMethod yX8_late ∈ BIG := (bigm (inT4 (List.mem_of_getElem? (i := 119) rfl)) rfl)
theorem km_X8_late_sel : Cond.selects RX8 yX8_late yX8_late ∈ BIG := (bigm (inT4 (List.mem_of_getElem? (i := 120) rfl)) rfl)
theorem km_X8_late_code : Cond.code yX8_late cX8_late 5 (some .int) ∈ BIG := (bigm (inT4 (List.mem_of_getElem? (i := 121) rfl)) rfl)
theorem km_X8_isLate_inst : Cond.instanceMethod yX8_isLate ∈ BIG := (bigm (inT4 (List.mem_of_getElem? (i := 124) rfl)) rfl)
theorem km_X8_isLate_sel : Cond.selects RX8 yX8_isLate yX8_isLate ∈ BIG := (bigm (inT0 (List.mem_of_getElem? (i := 37) rfl)) rfl)
theorem km_X8_isLate_code : Cond.code yX8_isLate cX8_isLate 4 (some .boolean) ∈ BIG := (bigm (inT4 (List.mem_of_getElem? (i := 125) rfl)) rfl)
theorem km_X8_item_inst : Cond.instanceMethod yX8_item ∈ BIG := (bigm (inT4 (List.mem_of_getElem? (i := 130) rfl)) rfl)
theorem km_X8_item_sel : Cond.selects RX8 yX8_item yX8_item ∈ BIG := (bigm (inT4 (List.mem_of_getElem? (i := 131) rfl)) rfl)
theorem km_X8_item_code : Cond.code yX8_item cX8_item 4 (some .int) ∈ BIG := (bigm (inT4 (List.mem_of_getElem? (i := 132) rfl)) rfl)
theorem km_X8_find_inst : Cond.instanceMethod yX8_find ∈ BIG := (bigm (inT4 (List.mem_of_getElem? (i := 151) rfl)) rfl)
theorem km_X8_find_sel : Cond.selects RX8 yX8_find yX8_find ∈ BIG := (bigm (inT4 (List.mem_of_getElem? (i := 152) rfl)) rfl)
theorem km_X8_find_code : Cond.code yX8_find cX8_find 7 (some .int) ∈ BIG := (bigm (inT4 (List.mem_of_getElem? (i := 153) rfl)) rfl)
theorem km_X8_found_inst : Cond.instanceMethod yX8_found ∈ BIG := (bigm (inT1 (List.mem_of_getElem? (i := 216) rfl)) rfl)
theorem km_X8_found_sel : Cond.selects RX8 yX8_found yX8_found ∈ BIG := (bigm (inT1 (List.mem_of_getElem? (i := 217) rfl)) rfl)
theorem km_X8_found_code : Cond.code yX8_found cX8_found 2 (some .int) ∈ BIG := (bigm (inT1 (List.mem_of_getElem? (i := 218) rfl)) rfl)
theorem km_X8_itemAt_inst : Cond.instanceMethod yX8_itemAt ∈ BIG := (bigm (inT2 (List.mem_of_getElem? (i := 21) rfl)) rfl)
theorem km_X8_itemAt_sel : Cond.selects RX8 yX8_itemAt yX8_itemAt ∈ BIG := (bigm (inT0 (List.mem_of_getElem? (i := 0) rfl)) rfl)
theorem km_X8_itemAt_code : Cond.code yX8_itemAt cX8_itemAt 2 (some (.object "BreakersYard$Item")) ∈ BIG := (bigm (inT2 (List.mem_of_getElem? (i := 22) rfl)) rfl)
theorem km_X8_itemOf_inst : Cond.instanceMethod yX8_itemOf ∈ BIG := (bigm (inT4 (List.mem_of_getElem? (i := 135) rfl)) rfl)
theorem km_X8_itemOf_sel : Cond.selects RX8 yX8_itemOf yX8_itemOf ∈ BIG := (bigm (inT0 (List.mem_of_getElem? (i := 38) rfl)) rfl)
theorem km_X8_itemOf_code : Cond.code yX8_itemOf cX8_itemOf 3 (some (.object "BreakersYard$Item")) ∈ BIG := (bigm (inT4 (List.mem_of_getElem? (i := 136) rfl)) rfl)
theorem km_X8_addItem_inst : Cond.instanceMethod yX8_addItem ∈ BIG := (bigm (inT4 (List.mem_of_getElem? (i := 88) rfl)) rfl)
theorem km_X8_addItem_sel : Cond.selects RX8 yX8_addItem yX8_addItem ∈ BIG := (bigm (inT0 (List.mem_of_getElem? (i := 34) rfl)) rfl)
theorem km_X8_addItem_code : Cond.code yX8_addItem cX8_addItem 2 (some .int) ∈ BIG := (bigm (inT4 (List.mem_of_getElem? (i := 89) rfl)) rfl)
theorem km_X8_factOf_inst : Cond.instanceMethod yX8_factOf ∈ BIG := (bigm (inT4 (List.mem_of_getElem? (i := 144) rfl)) rfl)
theorem km_X8_factOf_sel : Cond.selects RX8 yX8_factOf yX8_factOf ∈ BIG := (bigm (inT0 (List.mem_of_getElem? (i := 40) rfl)) rfl)
theorem km_X8_factOf_code : Cond.code yX8_factOf cX8_factOf 3 (some .int) ∈ BIG := (bigm (inT4 (List.mem_of_getElem? (i := 145) rfl)) rfl)
theorem km_X8_standsFor_inst : Cond.instanceMethod yX8_standsFor ∈ BIG := (bigm (inT4 (List.mem_of_getElem? (i := 161) rfl)) rfl)
theorem km_X8_standsFor_sel : Cond.selects RX8 yX8_standsFor yX8_standsFor ∈ BIG := (bigm (inT0 (List.mem_of_getElem? (i := 41) rfl)) rfl)
theorem km_X8_standsFor_code : Cond.code yX8_standsFor cX8_standsFor 6 (some .boolean) ∈ BIG := (bigm (inT4 (List.mem_of_getElem? (i := 162) rfl)) rfl)
theorem km_X8_valueOf_inst : Cond.instanceMethod yX8_valueOf ∈ BIG := (bigm (inT4 (List.mem_of_getElem? (i := 140) rfl)) rfl)
theorem km_X8_valueOf_sel : Cond.selects RX8 yX8_valueOf yX8_valueOf ∈ BIG := (bigm (inT0 (List.mem_of_getElem? (i := 39) rfl)) rfl)
theorem km_X8_valueOf_code : Cond.code yX8_valueOf cX8_valueOf 6 (some .int) ∈ BIG := (bigm (inT4 (List.mem_of_getElem? (i := 141) rfl)) rfl)
theorem km_X8_move_inst : Cond.instanceMethod yX8_move ∈ BIG := (bigm (inT2 (List.mem_of_getElem? (i := 29) rfl)) rfl)
theorem km_X8_move_sel : Cond.selects RX8 yX8_move yX8_move ∈ BIG := (bigm (inT0 (List.mem_of_getElem? (i := 2) rfl)) rfl)
theorem km_X8_move_code : Cond.code yX8_move cX8_move 3 none ∈ BIG := (bigm (inT2 (List.mem_of_getElem? (i := 30) rfl)) rfl)
theorem km_X8_gateOf_static : Cond.static yX8_gateOf ∈ BIG := (bigm (inT2 (List.mem_of_getElem? (i := 32) rfl)) rfl)
theorem km_X8_gateOf_code : Cond.code yX8_gateOf cX8_gateOf 1 (some .int) ∈ BIG := (bigm (inT2 (List.mem_of_getElem? (i := 33) rfl)) rfl)
theorem km_X8_sell_inst : Cond.instanceMethod yX8_sell ∈ BIG := (bigm (inT4 (List.mem_of_getElem? (i := 183) rfl)) rfl)
theorem km_X8_sell_sel : Cond.selects RX8 yX8_sell yX8_sell ∈ BIG := (bigm (inT4 (List.mem_of_getElem? (i := 184) rfl)) rfl)
theorem km_X8_sell_code : Cond.code yX8_sell cX8_sell 6 (some .int) ∈ BIG := (bigm (inT4 (List.mem_of_getElem? (i := 185) rfl)) rfl)
theorem km_X8_back_inst : Cond.instanceMethod yX8_back ∈ BIG := (bigm (inT4 (List.mem_of_getElem? (i := 199) rfl)) rfl)
theorem km_X8_back_sel : Cond.selects RX8 yX8_back yX8_back ∈ BIG := (bigm (inT4 (List.mem_of_getElem? (i := 200) rfl)) rfl)
theorem km_X8_back_code : Cond.code yX8_back cX8_back 4 (some .int) ∈ BIG := (bigm (inT4 (List.mem_of_getElem? (i := 201) rfl)) rfl)
theorem km_X8_till_inst : Cond.instanceMethod yX8_till ∈ BIG := (bigm (inT1 (List.mem_of_getElem? (i := 224) rfl)) rfl)
theorem km_X8_till_sel : Cond.selects RX8 yX8_till yX8_till ∈ BIG := (bigm (inT1 (List.mem_of_getElem? (i := 225) rfl)) rfl)
theorem km_X8_till_code : Cond.code yX8_till cX8_till 1 (some .long) ∈ BIG := (bigm (inT1 (List.mem_of_getElem? (i := 226) rfl)) rfl)
theorem km_X8_sellFor_inst : Cond.instanceMethod yX8_sellFor ∈ BIG := (bigm (inT4 (List.mem_of_getElem? (i := 189) rfl)) rfl)
theorem km_X8_sellFor_sel : Cond.selects RX8 yX8_sellFor yX8_sellFor ∈ BIG := (bigm (inT0 (List.mem_of_getElem? (i := 44) rfl)) rfl)
theorem km_X8_sellFor_code : Cond.code yX8_sellFor cX8_sellFor 3 (some .int) ∈ BIG := (bigm (inT4 (List.mem_of_getElem? (i := 190) rfl)) rfl)
theorem km_X8_otherOfPair_inst : Cond.instanceMethod yX8_otherOfPair ∈ BIG := (bigm (inT4 (List.mem_of_getElem? (i := 193) rfl)) rfl)
theorem km_X8_otherOfPair_sel : Cond.selects RX8 yX8_otherOfPair yX8_otherOfPair ∈ BIG := (bigm (inT0 (List.mem_of_getElem? (i := 45) rfl)) rfl)
theorem km_X8_otherOfPair_code : Cond.code yX8_otherOfPair cX8_otherOfPair 4 (some (.object "BreakersYard$Item")) ∈ BIG := (bigm (inT4 (List.mem_of_getElem? (i := 194) rfl)) rfl)
theorem km_X8_best_inst : Cond.instanceMethod yX8_best ∈ BIG := (bigm (inT4 (List.mem_of_getElem? (i := 207) rfl)) rfl)
theorem km_X8_best_sel : Cond.selects RX8 yX8_best yX8_best ∈ BIG := (bigm (inT4 (List.mem_of_getElem? (i := 208) rfl)) rfl)
theorem km_X8_best_code : Cond.code yX8_best cX8_best 3 (some .int) ∈ BIG := (bigm (inT4 (List.mem_of_getElem? (i := 209) rfl)) rfl)
theorem km_X8_worth_inst : Cond.instanceMethod yX8_worth ∈ BIG := (bigm (inT4 (List.mem_of_getElem? (i := 235) rfl)) rfl)
theorem km_X8_worth_sel : Cond.selects RX8 yX8_worth yX8_worth ∈ BIG := (bigm (inT4 (List.mem_of_getElem? (i := 236) rfl)) rfl)
theorem km_X8_worth_code : Cond.code yX8_worth cX8_worth 7 (some .int) ∈ BIG := (bigm (inT4 (List.mem_of_getElem? (i := 237) rfl)) rfl)
theorem km_X8_wageOf_static : Cond.static yX8_wageOf ∈ BIG := (bigm (inT4 (List.mem_of_getElem? (i := 211) rfl)) rfl)
theorem km_X8_wageOf_code : Cond.code yX8_wageOf cX8_wageOf 1 (some .int) ∈ BIG := (bigm (inT4 (List.mem_of_getElem? (i := 212) rfl)) rfl)
theorem km_X8_bestOf_inst : Cond.instanceMethod yX8_bestOf ∈ BIG := (bigm (inT4 (List.mem_of_getElem? (i := 216) rfl)) rfl)
theorem km_X8_bestOf_sel : Cond.selects RX8 yX8_bestOf yX8_bestOf ∈ BIG := (bigm (inT0 (List.mem_of_getElem? (i := 46) rfl)) rfl)
theorem km_X8_bestOf_code : Cond.code yX8_bestOf cX8_bestOf 7 (some .int) ∈ BIG := (bigm (inT4 (List.mem_of_getElem? (i := 217) rfl)) rfl)
theorem km_X8_sumGains_inst : Cond.instanceMethod yX8_sumGains ∈ BIG := (bigm (inT4 (List.mem_of_getElem? (i := 220) rfl)) rfl)
theorem km_X8_sumGains_sel : Cond.selects RX8 yX8_sumGains yX8_sumGains ∈ BIG := (bigm (inT0 (List.mem_of_getElem? (i := 47) rfl)) rfl)
theorem km_X8_sumGains_code : Cond.code yX8_sumGains cX8_sumGains 5 none ∈ BIG := (bigm (inT4 (List.mem_of_getElem? (i := 221) rfl)) rfl)
theorem km_X8_mayBeChosen_inst : Cond.instanceMethod yX8_mayBeChosen ∈ BIG := (bigm (inT4 (List.mem_of_getElem? (i := 225) rfl)) rfl)
theorem km_X8_mayBeChosen_sel : Cond.selects RX8 yX8_mayBeChosen yX8_mayBeChosen ∈ BIG := (bigm (inT0 (List.mem_of_getElem? (i := 48) rfl)) rfl)
theorem km_X8_mayBeChosen_code : Cond.code yX8_mayBeChosen cX8_mayBeChosen 4 (some .boolean) ∈ BIG := (bigm (inT4 (List.mem_of_getElem? (i := 226) rfl)) rfl)
theorem km_X8_gainOf_inst : Cond.instanceMethod yX8_gainOf ∈ BIG := (bigm (inT4 (List.mem_of_getElem? (i := 229) rfl)) rfl)
theorem km_X8_gainOf_sel : Cond.selects RX8 yX8_gainOf yX8_gainOf ∈ BIG := (bigm (inT0 (List.mem_of_getElem? (i := 49) rfl)) rfl)
theorem km_X8_gainOf_code : Cond.code yX8_gainOf cX8_gainOf 7 (some .int) ∈ BIG := (bigm (inT4 (List.mem_of_getElem? (i := 230) rfl)) rfl)
theorem km_X8_grams_inst : Cond.instanceMethod yX8_grams ∈ BIG := (bigm (inT5 (List.mem_of_getElem? (i := 2) rfl)) rfl)
theorem km_X8_grams_sel : Cond.selects RX8 yX8_grams yX8_grams ∈ BIG := (bigm (inT5 (List.mem_of_getElem? (i := 3) rfl)) rfl)
theorem km_X8_grams_code : Cond.code yX8_grams cX8_grams 4 (some .int) ∈ BIG := (bigm (inT5 (List.mem_of_getElem? (i := 4) rfl)) rfl)
theorem km_X8_count_inst : Cond.instanceMethod yX8_count ∈ BIG := (bigm (inT1 (List.mem_of_getElem? (i := 228) rfl)) rfl)
theorem km_X8_count_sel : Cond.selects RX8 yX8_count yX8_count ∈ BIG := (bigm (inT1 (List.mem_of_getElem? (i := 229) rfl)) rfl)
theorem km_X8_count_code : Cond.code yX8_count cX8_count 2 (some .int) ∈ BIG := (bigm (inT1 (List.mem_of_getElem? (i := 230) rfl)) rfl)
theorem km_X8_weightPlace_inst : Cond.instanceMethod yX8_weightPlace ∈ BIG := (bigm (inT2 (List.mem_of_getElem? (i := 52) rfl)) rfl)
theorem km_X8_weightPlace_sel : Cond.selects RX8 yX8_weightPlace yX8_weightPlace ∈ BIG := (bigm (inT0 (List.mem_of_getElem? (i := 5) rfl)) rfl)
theorem km_X8_weightPlace_code : Cond.code yX8_weightPlace cX8_weightPlace 5 (some .int) ∈ BIG := (bigm (inT2 (List.mem_of_getElem? (i := 53) rfl)) rfl)
theorem km_X8_weigh_inst : Cond.instanceMethod yX8_weigh ∈ BIG := (bigm (inT2 (List.mem_of_getElem? (i := 36) rfl)) rfl)
theorem km_X8_weigh_sel : Cond.selects RX8 yX8_weigh yX8_weigh ∈ BIG := (bigm (inT0 (List.mem_of_getElem? (i := 3) rfl)) rfl)
theorem km_X8_weigh_code : Cond.code yX8_weigh cX8_weigh 6 none ∈ BIG := (bigm (inT2 (List.mem_of_getElem? (i := 37) rfl)) rfl)
theorem km_X8_undo_inst : Cond.instanceMethod yX8_undo ∈ BIG := (bigm (inT2 (List.mem_of_getElem? (i := 4) rfl)) rfl)
theorem km_X8_undo_sel : Cond.selects RX8 yX8_undo yX8_undo ∈ BIG := (bigm (inT2 (List.mem_of_getElem? (i := 5) rfl)) rfl)
theorem km_X8_undo_code : Cond.code yX8_undo cX8_undo 4 (some .int) ∈ BIG := (bigm (inT2 (List.mem_of_getElem? (i := 6) rfl)) rfl)
theorem km_X8_putBackOn_inst : Cond.instanceMethod yX8_putBackOn ∈ BIG := (bigm (inT2 (List.mem_of_getElem? (i := 25) rfl)) rfl)
theorem km_X8_putBackOn_sel : Cond.selects RX8 yX8_putBackOn yX8_putBackOn ∈ BIG := (bigm (inT0 (List.mem_of_getElem? (i := 1) rfl)) rfl)
theorem km_X8_putBackOn_code : Cond.code yX8_putBackOn cX8_putBackOn 3 none ∈ BIG := (bigm (inT2 (List.mem_of_getElem? (i := 26) rfl)) rfl)
theorem km_X9_thrown_inst : Cond.instanceMethod yX9_thrown ∈ BIG := (bigm (inT5 (List.mem_of_getElem? (i := 7) rfl)) rfl)
theorem km_X9_thrown_sel : Cond.selects RX9 yX9_thrown yX9_thrown ∈ BIG := (bigm (inT5 (List.mem_of_getElem? (i := 8) rfl)) rfl)
theorem km_X9_thrown_code : Cond.code yX9_thrown cX9_thrown 1 (some .int) ∈ BIG := (bigm (inT5 (List.mem_of_getElem? (i := 9) rfl)) rfl)
theorem km_X9_may_inst : Cond.instanceMethod yX9_may ∈ BIG := (bigm (inT5 (List.mem_of_getElem? (i := 209) rfl)) rfl)
theorem km_X9_may_sel : Cond.selects RX9 yX9_may yX9_may ∈ BIG := (bigm (inT0 (List.mem_of_getElem? (i := 50) rfl)) rfl)
theorem km_X9_may_code : Cond.code yX9_may cX9_may 3 (some .boolean) ∈ BIG := (bigm (inT5 (List.mem_of_getElem? (i := 210) rfl)) rfl)
theorem km_X9_sheet_inst : Cond.instanceMethod yX9_sheet ∈ BIG := (bigm (inT5 (List.mem_of_getElem? (i := 204) rfl)) rfl)
theorem km_X9_sheet_sel : Cond.selects RX9 yX9_sheet yX9_sheet ∈ BIG := (bigm (inT5 (List.mem_of_getElem? (i := 205) rfl)) rfl)
theorem km_X9_sheet_code : Cond.code yX9_sheet cX9_sheet 2 (some .int) ∈ BIG := (bigm (inT5 (List.mem_of_getElem? (i := 206) rfl)) rfl)
theorem km_X9_isRow_inst : Cond.instanceMethod yX9_isRow ∈ BIG := (bigm (inT5 (List.mem_of_getElem? (i := 217) rfl)) rfl)
theorem km_X9_isRow_sel : Cond.selects RX9 yX9_isRow yX9_isRow ∈ BIG := (bigm (inT0 (List.mem_of_getElem? (i := 51) rfl)) rfl)
theorem km_X9_isRow_code : Cond.code yX9_isRow cX9_isRow 4 (some .boolean) ∈ BIG := (bigm (inT5 (List.mem_of_getElem? (i := 218) rfl)) rfl)
theorem km_X9_row_inst : Cond.instanceMethod yX9_row ∈ BIG := (bigm (inT5 (List.mem_of_getElem? (i := 212) rfl)) rfl)
theorem km_X9_row_sel : Cond.selects RX9 yX9_row yX9_row ∈ BIG := (bigm (inT5 (List.mem_of_getElem? (i := 213) rfl)) rfl)
theorem km_X9_row_code : Cond.code yX9_row cX9_row 6 (some .int) ∈ BIG := (bigm (inT5 (List.mem_of_getElem? (i := 214) rfl)) rfl)
theorem km_X9_put_inst : Cond.instanceMethod yX9_put ∈ BIG := (bigm (inT5 (List.mem_of_getElem? (i := 220) rfl)) rfl)
theorem km_X9_put_sel : Cond.selects RX9 yX9_put yX9_put ∈ BIG := (bigm (inT5 (List.mem_of_getElem? (i := 221) rfl)) rfl)
theorem km_X9_put_code : Cond.code yX9_put cX9_put 7 (some .int) ∈ BIG := (bigm (inT5 (List.mem_of_getElem? (i := 222) rfl)) rfl)
theorem km_X9_tear_inst : Cond.instanceMethod yX9_tear ∈ BIG := (bigm (inT5 (List.mem_of_getElem? (i := 224) rfl)) rfl)
theorem km_X9_tear_sel : Cond.selects RX9 yX9_tear yX9_tear ∈ BIG := (bigm (inT5 (List.mem_of_getElem? (i := 225) rfl)) rfl)
theorem km_X9_tear_code : Cond.code yX9_tear cX9_tear 5 (some .int) ∈ BIG := (bigm (inT5 (List.mem_of_getElem? (i := 226) rfl)) rfl)
theorem km_X9_feed_inst : Cond.instanceMethod yX9_feed ∈ BIG := (bigm (inT5 (List.mem_of_getElem? (i := 228) rfl)) rfl)
theorem km_X9_feed_sel : Cond.selects RX9 yX9_feed yX9_feed ∈ BIG := (bigm (inT5 (List.mem_of_getElem? (i := 229) rfl)) rfl)
theorem km_X9_feed_code : Cond.code yX9_feed cX9_feed 8 (some .int) ∈ BIG := (bigm (inT5 (List.mem_of_getElem? (i := 230) rfl)) rfl)
theorem km_X9_here_inst : Cond.instanceMethod yX9_here ∈ BIG := (bigm (inT6 (List.mem_of_getElem? (i := 5) rfl)) rfl)
theorem km_X9_here_sel : Cond.selects RX9 yX9_here yX9_here ∈ BIG := (bigm (inT0 (List.mem_of_getElem? (i := 54) rfl)) rfl)
theorem km_X9_here_code : Cond.code yX9_here cX9_here 1 (some .int) ∈ BIG := (bigm (inT6 (List.mem_of_getElem? (i := 6) rfl)) rfl)
theorem km_X9_wrong_inst : Cond.instanceMethod yX9_wrong ∈ BIG := (bigm (inT6 (List.mem_of_getElem? (i := 9) rfl)) rfl)
theorem km_X9_wrong_sel : Cond.selects RX9 yX9_wrong yX9_wrong ∈ BIG := (bigm (inT0 (List.mem_of_getElem? (i := 55) rfl)) rfl)
theorem km_X9_wrong_code : Cond.code yX9_wrong cX9_wrong 1 none ∈ BIG := (bigm (inT6 (List.mem_of_getElem? (i := 10) rfl)) rfl)
theorem km_X9_fine_inst : Cond.instanceMethod yX9_fine ∈ BIG := (bigm (inT5 (List.mem_of_getElem? (i := 237) rfl)) rfl)
theorem km_X9_fine_sel : Cond.selects RX9 yX9_fine yX9_fine ∈ BIG := (bigm (inT0 (List.mem_of_getElem? (i := 52) rfl)) rfl)
theorem km_X9_fine_code : Cond.code yX9_fine cX9_fine 1 (some .boolean) ∈ BIG := (bigm (inT5 (List.mem_of_getElem? (i := 238) rfl)) rfl)
theorem km_X9_emit_inst : Cond.instanceMethod yX9_emit ∈ BIG := (bigm (inT6 (List.mem_of_getElem? (i := 20) rfl)) rfl)
theorem km_X9_emit_sel : Cond.selects RX9 yX9_emit yX9_emit ∈ BIG := (bigm (inT0 (List.mem_of_getElem? (i := 57) rfl)) rfl)
theorem km_X9_emit_code : Cond.code yX9_emit cX9_emit 5 none ∈ BIG := (bigm (inT6 (List.mem_of_getElem? (i := 21) rfl)) rfl)
theorem km_X9_isDigit_static : Cond.static yX9_isDigit ∈ BIG := (bigm (inT6 (List.mem_of_getElem? (i := 16) rfl)) rfl)
theorem km_X9_isDigit_code : Cond.code yX9_isDigit cX9_isDigit 1 (some .boolean) ∈ BIG := (bigm (inT6 (List.mem_of_getElem? (i := 17) rfl)) rfl)
theorem km_X9_digits_inst : Cond.instanceMethod yX9_digits ∈ BIG := (bigm (inT6 (List.mem_of_getElem? (i := 13) rfl)) rfl)
theorem km_X9_digits_sel : Cond.selects RX9 yX9_digits yX9_digits ∈ BIG := (bigm (inT0 (List.mem_of_getElem? (i := 56) rfl)) rfl)
theorem km_X9_digits_code : Cond.code yX9_digits cX9_digits 3 (some .int) ∈ BIG := (bigm (inT6 (List.mem_of_getElem? (i := 14) rfl)) rfl)
theorem km_X9_operand_inst : Cond.instanceMethod yX9_operand ∈ BIG := (bigm (inT6 (List.mem_of_getElem? (i := 1) rfl)) rfl)
theorem km_X9_operand_sel : Cond.selects RX9 yX9_operand yX9_operand ∈ BIG := (bigm (inT0 (List.mem_of_getElem? (i := 53) rfl)) rfl)
theorem km_X9_operand_code : Cond.code yX9_operand cX9_operand 4 (some .boolean) ∈ BIG := (bigm (inT6 (List.mem_of_getElem? (i := 2) rfl)) rfl)
theorem km_X9_nots_inst : Cond.instanceMethod yX9_nots ∈ BIG := (bigm (inT6 (List.mem_of_getElem? (i := 24) rfl)) rfl)
theorem km_X9_nots_sel : Cond.selects RX9 yX9_nots yX9_nots ∈ BIG := (bigm (inT0 (List.mem_of_getElem? (i := 58) rfl)) rfl)
theorem km_X9_nots_code : Cond.code yX9_nots cX9_nots 1 none ∈ BIG := (bigm (inT6 (List.mem_of_getElem? (i := 25) rfl)) rfl)
theorem km_X9_settle_inst : Cond.instanceMethod yX9_settle ∈ BIG := (bigm (inT6 (List.mem_of_getElem? (i := 28) rfl)) rfl)
theorem km_X9_settle_sel : Cond.selects RX9 yX9_settle yX9_settle ∈ BIG := (bigm (inT0 (List.mem_of_getElem? (i := 59) rfl)) rfl)
theorem km_X9_settle_code : Cond.code yX9_settle cX9_settle 2 none ∈ BIG := (bigm (inT6 (List.mem_of_getElem? (i := 29) rfl)) rfl)
theorem km_X9_fit_inst : Cond.instanceMethod yX9_fit ∈ BIG := (bigm (inT5 (List.mem_of_getElem? (i := 232) rfl)) rfl)
theorem km_X9_fit_sel : Cond.selects RX9 yX9_fit yX9_fit ∈ BIG := (bigm (inT5 (List.mem_of_getElem? (i := 233) rfl)) rfl)
theorem km_X9_fit_code : Cond.code yX9_fit cX9_fit 5 (some .int) ∈ BIG := (bigm (inT5 (List.mem_of_getElem? (i := 234) rfl)) rfl)
theorem km_X9_asks_inst : Cond.instanceMethod yX9_asks ∈ BIG := (bigm (inT6 (List.mem_of_getElem? (i := 36) rfl)) rfl)
theorem km_X9_asks_sel : Cond.selects RX9 yX9_asks yX9_asks ∈ BIG := (bigm (inT0 (List.mem_of_getElem? (i := 60) rfl)) rfl)
theorem km_X9_asks_code : Cond.code yX9_asks cX9_asks 7 (some .boolean) ∈ BIG := (bigm (inT6 (List.mem_of_getElem? (i := 37) rfl)) rfl)
theorem km_X9_says_inst : Cond.instanceMethod yX9_says ∈ BIG := (bigm (inT6 (List.mem_of_getElem? (i := 31) rfl)) rfl)
theorem km_X9_says_sel : Cond.selects RX9 yX9_says yX9_says ∈ BIG := (bigm (inT6 (List.mem_of_getElem? (i := 32) rfl)) rfl)
theorem km_X9_says_code : Cond.code yX9_says cX9_says 5 (some .boolean) ∈ BIG := (bigm (inT6 (List.mem_of_getElem? (i := 33) rfl)) rfl)
theorem km_X9_least_inst : Cond.instanceMethod yX9_least ∈ BIG := (bigm (inT6 (List.mem_of_getElem? (i := 44) rfl)) rfl)
theorem km_X9_least_sel : Cond.selects RX9 yX9_least yX9_least ∈ BIG := (bigm (inT0 (List.mem_of_getElem? (i := 61) rfl)) rfl)
theorem km_X9_least_code : Cond.code yX9_least cX9_least 2 (some .long) ∈ BIG := (bigm (inT6 (List.mem_of_getElem? (i := 45) rfl)) rfl)
theorem km_X9_most_inst : Cond.instanceMethod yX9_most ∈ BIG := (bigm (inT6 (List.mem_of_getElem? (i := 49) rfl)) rfl)
theorem km_X9_most_sel : Cond.selects RX9 yX9_most yX9_most ∈ BIG := (bigm (inT0 (List.mem_of_getElem? (i := 62) rfl)) rfl)
theorem km_X9_most_code : Cond.code yX9_most cX9_most 3 (some .long) ∈ BIG := (bigm (inT6 (List.mem_of_getElem? (i := 50) rfl)) rfl)
theorem km_X9_part_inst : Cond.instanceMethod yX9_part ∈ BIG := (bigm (inT6 (List.mem_of_getElem? (i := 39) rfl)) rfl)
theorem km_X9_part_sel : Cond.selects RX9 yX9_part yX9_part ∈ BIG := (bigm (inT6 (List.mem_of_getElem? (i := 40) rfl)) rfl)
theorem km_X9_part_code : Cond.code yX9_part cX9_part 10 (some .int) ∈ BIG := (bigm (inT6 (List.mem_of_getElem? (i := 41) rfl)) rfl)
theorem km_X9_told_inst : Cond.instanceMethod yX9_told ∈ BIG := (bigm (inT6 (List.mem_of_getElem? (i := 58) rfl)) rfl)
theorem km_X9_told_sel : Cond.selects RX9 yX9_told yX9_told ∈ BIG := (bigm (inT6 (List.mem_of_getElem? (i := 59) rfl)) rfl)
theorem km_X9_told_code : Cond.code yX9_told cX9_told 5 (some .int) ∈ BIG := (bigm (inT6 (List.mem_of_getElem? (i := 60) rfl)) rfl)
theorem km_X9_acted_inst : Cond.instanceMethod yX9_acted ∈ BIG := (bigm (inT6 (List.mem_of_getElem? (i := 103) rfl)) rfl)
theorem km_X9_acted_sel : Cond.selects RX9 yX9_acted yX9_acted ∈ BIG := (bigm (inT0 (List.mem_of_getElem? (i := 69) rfl)) rfl)
theorem km_X9_acted_code : Cond.code yX9_acted cX9_acted 5 none ∈ BIG := (bigm (inT6 (List.mem_of_getElem? (i := 104) rfl)) rfl)
theorem km_X9_undo_inst : Cond.instanceMethod yX9_undo ∈ BIG := (bigm (inT6 (List.mem_of_getElem? (i := 62) rfl)) rfl)
theorem km_X9_undo_sel : Cond.selects RX9 yX9_undo yX9_undo ∈ BIG := (bigm (inT6 (List.mem_of_getElem? (i := 63) rfl)) rfl)
theorem km_X9_undo_code : Cond.code yX9_undo cX9_undo 2 (some .int) ∈ BIG := (bigm (inT6 (List.mem_of_getElem? (i := 64) rfl)) rfl)
theorem km_X9_takeBack_inst : Cond.instanceMethod yX9_takeBack ∈ BIG := (bigm (inT6 (List.mem_of_getElem? (i := 67) rfl)) rfl)
theorem km_X9_takeBack_sel : Cond.selects RX9 yX9_takeBack yX9_takeBack ∈ BIG := (bigm (inT0 (List.mem_of_getElem? (i := 63) rfl)) rfl)
theorem km_X9_takeBack_code : Cond.code yX9_takeBack cX9_takeBack 3 none ∈ BIG := (bigm (inT6 (List.mem_of_getElem? (i := 68) rfl)) rfl)
theorem km_X9_car_inst : Cond.instanceMethod yX9_car ∈ BIG := (bigm (inT6 (List.mem_of_getElem? (i := 82) rfl)) rfl)
theorem km_X9_car_sel : Cond.selects RX9 yX9_car yX9_car ∈ BIG := (bigm (inT6 (List.mem_of_getElem? (i := 83) rfl)) rfl)
theorem km_X9_car_code : Cond.code yX9_car cX9_car 8 (some .int) ∈ BIG := (bigm (inT6 (List.mem_of_getElem? (i := 84) rfl)) rfl)
theorem km_X9_isOn_inst : Cond.instanceMethod yX9_isOn ∈ BIG := (bigm (inT6 (List.mem_of_getElem? (i := 87) rfl)) rfl)
theorem km_X9_isOn_sel : Cond.selects RX9 yX9_isOn yX9_isOn ∈ BIG := (bigm (inT0 (List.mem_of_getElem? (i := 67) rfl)) rfl)
theorem km_X9_isOn_code : Cond.code yX9_isOn cX9_isOn 3 (some .boolean) ∈ BIG := (bigm (inT6 (List.mem_of_getElem? (i := 88) rfl)) rfl)
theorem km_X9_isCar_inst : Cond.instanceMethod yX9_isCar ∈ BIG := (bigm (inT6 (List.mem_of_getElem? (i := 95) rfl)) rfl)
theorem km_X9_isCar_sel : Cond.selects RX9 yX9_isCar yX9_isCar ∈ BIG := (bigm (inT0 (List.mem_of_getElem? (i := 68) rfl)) rfl)
theorem km_X9_isCar_code : Cond.code yX9_isCar cX9_isCar 2 (some .boolean) ∈ BIG := (bigm (inT6 (List.mem_of_getElem? (i := 96) rfl)) rfl)
theorem km_X9_about_inst : Cond.instanceMethod yX9_about ∈ BIG := (bigm (inT6 (List.mem_of_getElem? (i := 90) rfl)) rfl)
theorem km_X9_about_sel : Cond.selects RX9 yX9_about yX9_about ∈ BIG := (bigm (inT6 (List.mem_of_getElem? (i := 91) rfl)) rfl)
theorem km_X9_about_code : Cond.code yX9_about cX9_about 3 (some .int) ∈ BIG := (bigm (inT6 (List.mem_of_getElem? (i := 92) rfl)) rfl)
theorem km_X9_drain_inst : Cond.instanceMethod yX9_drain ∈ BIG := (bigm (inT6 (List.mem_of_getElem? (i := 98) rfl)) rfl)
theorem km_X9_drain_sel : Cond.selects RX9 yX9_drain yX9_drain ∈ BIG := (bigm (inT6 (List.mem_of_getElem? (i := 99) rfl)) rfl)
theorem km_X9_drain_code : Cond.code yX9_drain cX9_drain 2 (some .int) ∈ BIG := (bigm (inT6 (List.mem_of_getElem? (i := 100) rfl)) rfl)
theorem km_X9_papers_inst : Cond.instanceMethod yX9_papers ∈ BIG := (bigm (inT6 (List.mem_of_getElem? (i := 106) rfl)) rfl)
theorem km_X9_papers_sel : Cond.selects RX9 yX9_papers yX9_papers ∈ BIG := (bigm (inT6 (List.mem_of_getElem? (i := 107) rfl)) rfl)
theorem km_X9_papers_code : Cond.code yX9_papers cX9_papers 2 (some .int) ∈ BIG := (bigm (inT6 (List.mem_of_getElem? (i := 108) rfl)) rfl)
theorem km_X9_partOf_inst : Cond.instanceMethod yX9_partOf ∈ BIG := (bigm (inT6 (List.mem_of_getElem? (i := 75) rfl)) rfl)
theorem km_X9_partOf_sel : Cond.selects RX9 yX9_partOf yX9_partOf ∈ BIG := (bigm (inT0 (List.mem_of_getElem? (i := 65) rfl)) rfl)
theorem km_X9_partOf_code : Cond.code yX9_partOf cX9_partOf 2 (some .int) ∈ BIG := (bigm (inT6 (List.mem_of_getElem? (i := 76) rfl)) rfl)
theorem km_X9_gramsOf_inst : Cond.instanceMethod yX9_gramsOf ∈ BIG := (bigm (inT6 (List.mem_of_getElem? (i := 79) rfl)) rfl)
theorem km_X9_gramsOf_sel : Cond.selects RX9 yX9_gramsOf yX9_gramsOf ∈ BIG := (bigm (inT0 (List.mem_of_getElem? (i := 66) rfl)) rfl)
theorem km_X9_gramsOf_code : Cond.code yX9_gramsOf cX9_gramsOf 2 (some .int) ∈ BIG := (bigm (inT6 (List.mem_of_getElem? (i := 80) rfl)) rfl)
theorem km_X9_stuffOf_inst : Cond.instanceMethod yX9_stuffOf ∈ BIG := (bigm (inT6 (List.mem_of_getElem? (i := 71) rfl)) rfl)
theorem km_X9_stuffOf_sel : Cond.selects RX9 yX9_stuffOf yX9_stuffOf ∈ BIG := (bigm (inT0 (List.mem_of_getElem? (i := 64) rfl)) rfl)
theorem km_X9_stuffOf_code : Cond.code yX9_stuffOf cX9_stuffOf 2 (some .int) ∈ BIG := (bigm (inT6 (List.mem_of_getElem? (i := 72) rfl)) rfl)
theorem km_X9_hindrance_inst : Cond.instanceMethod yX9_hindrance ∈ BIG := (bigm (inT6 (List.mem_of_getElem? (i := 119) rfl)) rfl)
theorem km_X9_hindrance_sel : Cond.selects RX9 yX9_hindrance yX9_hindrance ∈ BIG := (bigm (inT0 (List.mem_of_getElem? (i := 71) rfl)) rfl)
theorem km_X9_hindrance_code : Cond.code yX9_hindrance cX9_hindrance 6 (some .int) ∈ BIG := (bigm (inT6 (List.mem_of_getElem? (i := 120) rfl)) rfl)
theorem km_X9_isPartOf_inst : Cond.instanceMethod yX9_isPartOf ∈ BIG := (bigm (inT6 (List.mem_of_getElem? (i := 115) rfl)) rfl)
theorem km_X9_isPartOf_sel : Cond.selects RX9 yX9_isPartOf yX9_isPartOf ∈ BIG := (bigm (inT0 (List.mem_of_getElem? (i := 70) rfl)) rfl)
theorem km_X9_isPartOf_code : Cond.code yX9_isPartOf cX9_isPartOf 3 (some .boolean) ∈ BIG := (bigm (inT6 (List.mem_of_getElem? (i := 116) rfl)) rfl)
theorem km_X9_hinders_inst : Cond.instanceMethod yX9_hinders ∈ BIG := (bigm (inT6 (List.mem_of_getElem? (i := 110) rfl)) rfl)
theorem km_X9_hinders_sel : Cond.selects RX9 yX9_hinders yX9_hinders ∈ BIG := (bigm (inT6 (List.mem_of_getElem? (i := 111) rfl)) rfl)
theorem km_X9_hinders_code : Cond.code yX9_hinders cX9_hinders 3 (some .int) ∈ BIG := (bigm (inT6 (List.mem_of_getElem? (i := 112) rfl)) rfl)
theorem km_X9_take_inst : Cond.instanceMethod yX9_take ∈ BIG := (bigm (inT6 (List.mem_of_getElem? (i := 122) rfl)) rfl)
theorem km_X9_take_sel : Cond.selects RX9 yX9_take yX9_take ∈ BIG := (bigm (inT6 (List.mem_of_getElem? (i := 123) rfl)) rfl)
theorem km_X9_take_code : Cond.code yX9_take cX9_take 5 (some .int) ∈ BIG := (bigm (inT6 (List.mem_of_getElem? (i := 124) rfl)) rfl)
theorem km_X9_press_inst : Cond.instanceMethod yX9_press ∈ BIG := (bigm (inT6 (List.mem_of_getElem? (i := 126) rfl)) rfl)
theorem km_X9_press_sel : Cond.selects RX9 yX9_press yX9_press ∈ BIG := (bigm (inT6 (List.mem_of_getElem? (i := 127) rfl)) rfl)
theorem km_X9_press_code : Cond.code yX9_press cX9_press 5 (some .int) ∈ BIG := (bigm (inT6 (List.mem_of_getElem? (i := 128) rfl)) rfl)
theorem km_X9_day_inst : Cond.instanceMethod yX9_day ∈ BIG := (bigm (inT6 (List.mem_of_getElem? (i := 130) rfl)) rfl)
theorem km_X9_day_sel : Cond.selects RX9 yX9_day yX9_day ∈ BIG := (bigm (inT6 (List.mem_of_getElem? (i := 131) rfl)) rfl)
theorem km_X9_day_code : Cond.code yX9_day cX9_day 2 (some .int) ∈ BIG := (bigm (inT6 (List.mem_of_getElem? (i := 132) rfl)) rfl)
theorem km_X9_late_inst : Cond.instanceMethod yX9_late ∈ BIG := (bigm (inT6 (List.mem_of_getElem? (i := 135) rfl)) rfl)
theorem km_X9_late_sel : Cond.selects RX9 yX9_late yX9_late ∈ BIG := (bigm (inT6 (List.mem_of_getElem? (i := 136) rfl)) rfl)
theorem km_X9_late_code : Cond.code yX9_late cX9_late 6 (some .int) ∈ BIG := (bigm (inT6 (List.mem_of_getElem? (i := 137) rfl)) rfl)
theorem km_X9_valueOf_inst : Cond.instanceMethod yX9_valueOf ∈ BIG := (bigm (inT6 (List.mem_of_getElem? (i := 148) rfl)) rfl)
theorem km_X9_valueOf_sel : Cond.selects RX9 yX9_valueOf yX9_valueOf ∈ BIG := (bigm (inT0 (List.mem_of_getElem? (i := 73) rfl)) rfl)
theorem km_X9_valueOf_code : Cond.code yX9_valueOf cX9_valueOf 6 (some .int) ∈ BIG := (bigm (inT6 (List.mem_of_getElem? (i := 149) rfl)) rfl)
theorem km_X9_isItem_inst : Cond.instanceMethod yX9_isItem ∈ BIG := (bigm (inT6 (List.mem_of_getElem? (i := 144) rfl)) rfl)
theorem km_X9_isItem_sel : Cond.selects RX9 yX9_isItem yX9_isItem ∈ BIG := (bigm (inT0 (List.mem_of_getElem? (i := 72) rfl)) rfl)
theorem km_X9_isItem_code : Cond.code yX9_isItem cX9_isItem 2 (some .boolean) ∈ BIG := (bigm (inT6 (List.mem_of_getElem? (i := 145) rfl)) rfl)
theorem km_X9_item_inst : Cond.instanceMethod yX9_item ∈ BIG := (bigm (inT6 (List.mem_of_getElem? (i := 139) rfl)) rfl)
theorem km_X9_item_sel : Cond.selects RX9 yX9_item yX9_item ∈ BIG := (bigm (inT6 (List.mem_of_getElem? (i := 140) rfl)) rfl)
theorem km_X9_item_code : Cond.code yX9_item cX9_item 3 (some .int) ∈ BIG := (bigm (inT6 (List.mem_of_getElem? (i := 141) rfl)) rfl)
theorem km_X9_find_inst : Cond.instanceMethod yX9_find ∈ BIG := (bigm (inT6 (List.mem_of_getElem? (i := 151) rfl)) rfl)
theorem km_X9_find_sel : Cond.selects RX9 yX9_find yX9_find ∈ BIG := (bigm (inT6 (List.mem_of_getElem? (i := 152) rfl)) rfl)
theorem km_X9_find_code : Cond.code yX9_find cX9_find 8 (some .int) ∈ BIG := (bigm (inT6 (List.mem_of_getElem? (i := 153) rfl)) rfl)
theorem km_X9_insert_inst : Cond.instanceMethod yX9_insert ∈ BIG := (bigm (inT6 (List.mem_of_getElem? (i := 156) rfl)) rfl)
theorem km_X9_insert_sel : Cond.selects RX9 yX9_insert yX9_insert ∈ BIG := (bigm (inT0 (List.mem_of_getElem? (i := 74) rfl)) rfl)
theorem km_X9_insert_code : Cond.code yX9_insert cX9_insert 5 none ∈ BIG := (bigm (inT6 (List.mem_of_getElem? (i := 157) rfl)) rfl)
theorem km_X9_found_inst : Cond.instanceMethod yX9_found ∈ BIG := (bigm (inT6 (List.mem_of_getElem? (i := 159) rfl)) rfl)
theorem km_X9_found_sel : Cond.selects RX9 yX9_found yX9_found ∈ BIG := (bigm (inT6 (List.mem_of_getElem? (i := 160) rfl)) rfl)
theorem km_X9_found_code : Cond.code yX9_found cX9_found 2 (some .int) ∈ BIG := (bigm (inT6 (List.mem_of_getElem? (i := 161) rfl)) rfl)
theorem km_X9_sells_inst : Cond.instanceMethod yX9_sells ∈ BIG := (bigm (inT6 (List.mem_of_getElem? (i := 168) rfl)) rfl)
theorem km_X9_sells_sel : Cond.selects RX9 yX9_sells yX9_sells ∈ BIG := (bigm (inT0 (List.mem_of_getElem? (i := 75) rfl)) rfl)
theorem km_X9_sells_code : Cond.code yX9_sells cX9_sells 3 none ∈ BIG := (bigm (inT6 (List.mem_of_getElem? (i := 169) rfl)) rfl)
theorem km_X9_sell_inst : Cond.instanceMethod yX9_sell ∈ BIG := (bigm (inT6 (List.mem_of_getElem? (i := 163) rfl)) rfl)
theorem km_X9_sell_sel : Cond.selects RX9 yX9_sell yX9_sell ∈ BIG := (bigm (inT6 (List.mem_of_getElem? (i := 164) rfl)) rfl)
theorem km_X9_sell_code : Cond.code yX9_sell cX9_sell 7 (some .int) ∈ BIG := (bigm (inT6 (List.mem_of_getElem? (i := 165) rfl)) rfl)
theorem km_X9_back_inst : Cond.instanceMethod yX9_back ∈ BIG := (bigm (inT6 (List.mem_of_getElem? (i := 171) rfl)) rfl)
theorem km_X9_back_sel : Cond.selects RX9 yX9_back yX9_back ∈ BIG := (bigm (inT6 (List.mem_of_getElem? (i := 172) rfl)) rfl)
theorem km_X9_back_code : Cond.code yX9_back cX9_back 4 (some .int) ∈ BIG := (bigm (inT6 (List.mem_of_getElem? (i := 173) rfl)) rfl)
theorem km_X9_findBest_inst : Cond.instanceMethod yX9_findBest ∈ BIG := (bigm (inT6 (List.mem_of_getElem? (i := 180) rfl)) rfl)
theorem km_X9_findBest_sel : Cond.selects RX9 yX9_findBest yX9_findBest ∈ BIG := (bigm (inT0 (List.mem_of_getElem? (i := 76) rfl)) rfl)
theorem km_X9_findBest_code : Cond.code yX9_findBest cX9_findBest 8 (some .int) ∈ BIG := (bigm (inT6 (List.mem_of_getElem? (i := 181) rfl)) rfl)
theorem km_X9_best_inst : Cond.instanceMethod yX9_best ∈ BIG := (bigm (inT6 (List.mem_of_getElem? (i := 175) rfl)) rfl)
theorem km_X9_best_sel : Cond.selects RX9 yX9_best yX9_best ∈ BIG := (bigm (inT6 (List.mem_of_getElem? (i := 176) rfl)) rfl)
theorem km_X9_best_code : Cond.code yX9_best cX9_best 3 (some .int) ∈ BIG := (bigm (inT6 (List.mem_of_getElem? (i := 177) rfl)) rfl)
theorem km_X9_worth_inst : Cond.instanceMethod yX9_worth ∈ BIG := (bigm (inT6 (List.mem_of_getElem? (i := 183) rfl)) rfl)
theorem km_X9_worth_sel : Cond.selects RX9 yX9_worth yX9_worth ∈ BIG := (bigm (inT6 (List.mem_of_getElem? (i := 184) rfl)) rfl)
theorem km_X9_worth_code : Cond.code yX9_worth cX9_worth 3 (some .int) ∈ BIG := (bigm (inT6 (List.mem_of_getElem? (i := 185) rfl)) rfl)
theorem km_X9_grams_inst : Cond.instanceMethod yX9_grams ∈ BIG := (bigm (inT6 (List.mem_of_getElem? (i := 187) rfl)) rfl)
theorem km_X9_grams_sel : Cond.selects RX9 yX9_grams yX9_grams ∈ BIG := (bigm (inT6 (List.mem_of_getElem? (i := 188) rfl)) rfl)
theorem km_X9_grams_code : Cond.code yX9_grams cX9_grams 3 (some .int) ∈ BIG := (bigm (inT6 (List.mem_of_getElem? (i := 189) rfl)) rfl)
theorem km_X9_count_inst : Cond.instanceMethod yX9_count ∈ BIG := (bigm (inT6 (List.mem_of_getElem? (i := 191) rfl)) rfl)
theorem km_X9_count_sel : Cond.selects RX9 yX9_count yX9_count ∈ BIG := (bigm (inT6 (List.mem_of_getElem? (i := 192) rfl)) rfl)
theorem km_X9_count_code : Cond.code yX9_count cX9_count 2 (some .int) ∈ BIG := (bigm (inT6 (List.mem_of_getElem? (i := 193) rfl)) rfl)
theorem km_X9_till_inst : Cond.instanceMethod yX9_till ∈ BIG := (bigm (inT6 (List.mem_of_getElem? (i := 195) rfl)) rfl)
theorem km_X9_till_sel : Cond.selects RX9 yX9_till yX9_till ∈ BIG := (bigm (inT6 (List.mem_of_getElem? (i := 196) rfl)) rfl)
theorem km_X9_till_code : Cond.code yX9_till cX9_till 1 (some .long) ∈ BIG := (bigm (inT6 (List.mem_of_getElem? (i := 197) rfl)) rfl)
theorem km_J7_fill_53178_static : Cond.static yJ7_fill_53178 ∈ BIG := (bigm (inT1 (List.mem_of_getElem? (i := 35) rfl)) rfl)
theorem km_J7_fill_53178_code : Cond.code yJ7_fill_53178 cJ7_fill_53178 4 none ∈ BIG := (bigm (inT1 (List.mem_of_getElem? (i := 36) rfl)) rfl)
theorem ki_J7 : Cond.initialized RJ7 ∈ BIG := (bigm (inT1 (List.mem_of_getElem? (i := 3) rfl)) rfl)
theorem ki_X0 : Cond.initialized RX0 ∈ BIG := (bigm (inT1 (List.mem_of_getElem? (i := 7) rfl)) rfl)
theorem ki_X1 : Cond.initialized RX1 ∈ BIG := (bigm (inT1 (List.mem_of_getElem? (i := 18) rfl)) rfl)
theorem ki_X2 : Cond.initialized RX2 ∈ BIG := (bigm (inT1 (List.mem_of_getElem? (i := 8) rfl)) rfl)
theorem ki_X3 : Cond.initialized RX3 ∈ BIG := (bigm (inT1 (List.mem_of_getElem? (i := 5) rfl)) rfl)
theorem ki_X4 : Cond.initialized RX4 ∈ BIG := (bigm (inT1 (List.mem_of_getElem? (i := 4) rfl)) rfl)
theorem ki_X5 : Cond.initialized RX5 ∈ BIG := (bigm (inT1 (List.mem_of_getElem? (i := 19) rfl)) rfl)
theorem ki_X6 : Cond.initialized RX6 ∈ BIG := (bigm (inT1 (List.mem_of_getElem? (i := 6) rfl)) rfl)
theorem ki_X7 : Cond.initialized RX7 ∈ BIG := (bigm (inT1 (List.mem_of_getElem? (i := 2) rfl)) rfl)
theorem ki_X8 : Cond.initialized RX8 ∈ BIG := (bigm (inT1 (List.mem_of_getElem? (i := 1) rfl)) rfl)
theorem ki_X9 : Cond.initialized RX9 ∈ BIG := (bigm (inT1 (List.mem_of_getElem? (i := 9) rfl)) rfl)
theorem lk_X0_22 : LkV RX0 22 yX0_dropEldest cX0_dropEldest 2 none 0 := ⟨(bigm (inT4 (List.mem_of_getElem? (i := 19) rfl)) rfl), km_X0_dropEldest_inst, km_X0_dropEldest_sel, ki_X0, km_X0_dropEldest_code, by decide +kernel, by decide +kernel, by decide +kernel⟩
theorem ko_X1_1 : Cond.methodLink RX1 1 objectInit ∈ BIG := (bigm (inT3 (List.mem_of_getElem? (i := 186) rfl)) rfl)
theorem lk_X2_26 : LkV RX2 26 yX2_goesAhead cX2_goesAhead 4 (some .boolean) 3 := ⟨(bigm (inT4 (List.mem_of_getElem? (i := 167) rfl)) rfl), km_X2_goesAhead_inst, km_X2_goesAhead_sel, ki_X2, km_X2_goesAhead_code, by decide +kernel, by decide +kernel, by decide +kernel⟩
theorem lk_X2_30 : LkV RX2 30 yX2_write cX2_write 5 none 4 := ⟨(bigm (inT4 (List.mem_of_getElem? (i := 171) rfl)) rfl), km_X2_write_inst, km_X2_write_sel, ki_X2, km_X2_write_code, by decide +kernel, by decide +kernel, by decide +kernel⟩
theorem lk_X3_33 : LkS RX3 33 yX3_signOf cX3_signOf 1 (some .int) 1 := ⟨(bigm (inT3 (List.mem_of_getElem? (i := 90) rfl)) rfl), km_X3_signOf_static, ki_X3, km_X3_signOf_code, by decide +kernel, by decide +kernel, by decide +kernel⟩
theorem km_X3_37 : Cond.methodLink RX3 37 Lib.Math.max.name ∈ BIG := (bigm (inT3 (List.mem_of_getElem? (i := 2) rfl)) rfl)
theorem km_X3_43 : Cond.methodLink RX3 43 Lib.Math.min.name ∈ BIG := (bigm (inT3 (List.mem_of_getElem? (i := 5) rfl)) rfl)
theorem lk_X3_46 : LkV RX3 46 yX3_readAny cX3_readAny 3 none 1 := ⟨(bigm (inT3 (List.mem_of_getElem? (i := 8) rfl)) rfl), km_X3_readAny_inst, km_X3_readAny_sel, ki_X3, km_X3_readAny_code, by decide +kernel, by decide +kernel, by decide +kernel⟩
theorem lk_X3_50 : LkV RX3 50 yX3_nextByte cX3_nextByte 1 (some .int) 0 := ⟨(bigm (inT3 (List.mem_of_getElem? (i := 24) rfl)) rfl), km_X3_nextByte_inst, km_X3_nextByte_sel, ki_X3, km_X3_nextByte_code, by decide +kernel, by decide +kernel, by decide +kernel⟩
theorem lk_X3_54 : LkV RX3 54 yX3_readAll cX3_readAll 3 none 1 := ⟨(bigm (inT3 (List.mem_of_getElem? (i := 12) rfl)) rfl), km_X3_readAll_inst, km_X3_readAll_sel, ki_X3, km_X3_readAll_code, by decide +kernel, by decide +kernel, by decide +kernel⟩
theorem lk_X3_57 : LkV RX3 57 yX3_comes cX3_comes 2 (some .boolean) 1 := ⟨(bigm (inT3 (List.mem_of_getElem? (i := 20) rfl)) rfl), km_X3_comes_inst, km_X3_comes_sel, ki_X3, km_X3_comes_code, by decide +kernel, by decide +kernel, by decide +kernel⟩
theorem lk_X3_61 : LkV RX3 61 yX3_add cX3_add 4 none 3 := ⟨(bigm (inT3 (List.mem_of_getElem? (i := 32) rfl)) rfl), km_X3_add_inst, km_X3_add_sel, ki_X3, km_X3_add_code, by decide +kernel, by decide +kernel, by decide +kernel⟩
theorem lk_X3_65 : LkV RX3 65 yX3_readUnit cX3_readUnit 2 none 1 := ⟨(bigm (inT3 (List.mem_of_getElem? (i := 16) rfl)) rfl), km_X3_readUnit_inst, km_X3_readUnit_sel, ki_X3, km_X3_readUnit_code, by decide +kernel, by decide +kernel, by decide +kernel⟩
theorem lk_X3_68 : LkV RX3 68 yX3_must cX3_must 2 none 1 := ⟨(bigm (inT3 (List.mem_of_getElem? (i := 36) rfl)) rfl), km_X3_must_inst, km_X3_must_sel, ki_X3, km_X3_must_code, by decide +kernel, by decide +kernel, by decide +kernel⟩
theorem lk_X3_72 : LkV RX3 72 yX3_readTest cX3_readTest 2 none 0 := ⟨(bigm (inT3 (List.mem_of_getElem? (i := 40) rfl)) rfl), km_X3_readTest_inst, km_X3_readTest_sel, ki_X3, km_X3_readTest_code, by decide +kernel, by decide +kernel, by decide +kernel⟩
theorem lk_X3_75 : LkV RX3 75 yX3_readNumber cX3_readNumber 4 (some .int) 0 := ⟨(bigm (inT3 (List.mem_of_getElem? (i := 44) rfl)) rfl), km_X3_readNumber_inst, km_X3_readNumber_sel, ki_X3, km_X3_readNumber_code, by decide +kernel, by decide +kernel, by decide +kernel⟩
theorem lk_X3_78 : LkV RX3 78 yX3_readLetter cX3_readLetter 2 (some .int) 0 := ⟨(bigm (inT3 (List.mem_of_getElem? (i := 51) rfl)) rfl), km_X3_readLetter_inst, km_X3_readLetter_sel, ki_X3, km_X3_readLetter_code, by decide +kernel, by decide +kernel, by decide +kernel⟩
theorem lk_X3_81 : LkS RX3 81 yX3_isDigit cX3_isDigit 1 (some .boolean) 1 := ⟨(bigm (inT3 (List.mem_of_getElem? (i := 48) rfl)) rfl), km_X3_isDigit_static, ki_X3, km_X3_isDigit_code, by decide +kernel, by decide +kernel, by decide +kernel⟩
theorem lk_X3_85 : LkV RX3 85 yX3_byteHere cX3_byteHere 1 (some .int) 0 := ⟨(bigm (inT3 (List.mem_of_getElem? (i := 28) rfl)) rfl), km_X3_byteHere_inst, km_X3_byteHere_sel, ki_X3, km_X3_byteHere_code, by decide +kernel, by decide +kernel, by decide +kernel⟩
theorem lk_X4_36 : LkV RX4 36 yX3_read cX3_read 4 (some .int) 2 := ⟨(bigm (inT2 (List.mem_of_getElem? (i := 238) rfl)) rfl), km_X3_read_inst, km_X3_read_sel, ki_X3, km_X3_read_code, by decide +kernel, by decide +kernel, by decide +kernel⟩
theorem lk_X4_40 : LkV RX4 40 yX4_keep cX4_keep 3 none 0 := ⟨(bigm (inT3 (List.mem_of_getElem? (i := 55) rfl)) rfl), km_X4_keep_inst, km_X4_keep_sel, ki_X4, km_X4_keep_code, by decide +kernel, by decide +kernel, by decide +kernel⟩
theorem lk_X4_43 : LkV RX4 43 yX3_size cX3_size 1 (some .int) 0 := ⟨(bigm (inT3 (List.mem_of_getElem? (i := 59) rfl)) rfl), km_X3_size_inst, km_X3_size_sel, ki_X3, km_X3_size_code, by decide +kernel, by decide +kernel, by decide +kernel⟩
theorem lk_X4_47 : LkV RX4 47 yX4_stepPlace cX4_stepPlace 4 (some .int) 2 := ⟨(bigm (inT3 (List.mem_of_getElem? (i := 63) rfl)) rfl), km_X4_stepPlace_inst, km_X4_stepPlace_sel, ki_X4, km_X4_stepPlace_code, by decide +kernel, by decide +kernel, by decide +kernel⟩
theorem lk_X4_51 : LkV RX4 51 yX3_stepAt cX3_stepAt 2 (some .int) 1 := ⟨(bigm (inT3 (List.mem_of_getElem? (i := 67) rfl)) rfl), km_X3_stepAt_inst, km_X3_stepAt_sel, ki_X3, km_X3_stepAt_code, by decide +kernel, by decide +kernel, by decide +kernel⟩
theorem lk_X4_55 : LkS RX4 55 yX3_signOf cX3_signOf 1 (some .int) 1 := ⟨(bigm (inT3 (List.mem_of_getElem? (i := 83) rfl)) rfl), km_X3_signOf_static, ki_X3, km_X3_signOf_code, by decide +kernel, by decide +kernel, by decide +kernel⟩
theorem kc_X4_58 : Cond.constantLong RX4 58 (-2) ∈ BIG := (bigm (inT3 (List.mem_of_getElem? (i := 86) rfl)) rfl)
theorem lk_X4_60 : LkS RX4 60 yX3_passes cX3_passes 6 (some .boolean) 4 := ⟨(bigm (inT3 (List.mem_of_getElem? (i := 87) rfl)) rfl), km_X3_passes_static, ki_X3, km_X3_passes_code, by decide +kernel, by decide +kernel, by decide +kernel⟩
theorem ko_X5_3 : Cond.methodLink RX5 3 objectInit ∈ BIG := (bigm (inT4 (List.mem_of_getElem? (i := 60) rfl)) rfl)
theorem lk_X6_18 : LkV RX6 18 yX6_partsOf cX6_partsOf 2 (some .int) 1 := ⟨(bigm (inT2 (List.mem_of_getElem? (i := 46) rfl)) rfl), km_X6_partsOf_inst, km_X6_partsOf_sel, ki_X6, km_X6_partsOf_code, by decide +kernel, by decide +kernel, by decide +kernel⟩
theorem lk_X6_22 : LkV RX6 22 yX6_placeOf cX6_placeOf 6 (some .int) 3 := ⟨(bigm (inT2 (List.mem_of_getElem? (i := 42) rfl)) rfl), km_X6_placeOf_inst, km_X6_placeOf_sel, ki_X6, km_X6_placeOf_code, by decide +kernel, by decide +kernel, by decide +kernel⟩
theorem lk_X6_26 : LkV RX6 26 yX6_factOf cX6_factOf 5 (some .int) 3 := ⟨(bigm (inT3 (List.mem_of_getElem? (i := 134) rfl)) rfl), km_X6_factOf_inst, km_X6_factOf_sel, ki_X6, km_X6_factOf_code, by decide +kernel, by decide +kernel, by decide +kernel⟩
theorem lk_X7_32 : LkV RX7 32 yX7_write cX7_write 6 (some .boolean) 3 := ⟨(bigm (inT2 (List.mem_of_getElem? (i := 194) rfl)) rfl), km_X7_write_inst, km_X7_write_sel, ki_X7, km_X7_write_code, by decide +kernel, by decide +kernel, by decide +kernel⟩
theorem lk_X7_36 : LkV RX7 36 yX7_placeOf cX7_placeOf 4 (some .int) 2 := ⟨(bigm (inT2 (List.mem_of_getElem? (i := 198) rfl)) rfl), km_X7_placeOf_inst, km_X7_placeOf_sel, ki_X7, km_X7_placeOf_code, by decide +kernel, by decide +kernel, by decide +kernel⟩
theorem lk_X7_40 : LkV RX7 40 yX7_lowestBits cX7_lowestBits 6 (some .long) 2 := ⟨(bigm (inT2 (List.mem_of_getElem? (i := 206) rfl)) rfl), km_X7_lowestBits_inst, km_X7_lowestBits_sel, ki_X7, km_X7_lowestBits_code, by decide +kernel, by decide +kernel, by decide +kernel⟩
theorem lk_X7_44 : LkV RX7 44 yX7_lengthAt cX7_lengthAt 2 (some .int) 1 := ⟨(bigm (inT2 (List.mem_of_getElem? (i := 202) rfl)) rfl), km_X7_lengthAt_inst, km_X7_lengthAt_sel, ki_X7, km_X7_lengthAt_code, by decide +kernel, by decide +kernel, by decide +kernel⟩
theorem lk_X8_80 : LkS RX8 80 yX7_isWidth cX7_isWidth 1 (some .boolean) 1 := ⟨(bigm (inT2 (List.mem_of_getElem? (i := 67) rfl)) rfl), km_X7_isWidth_static, ki_X7, km_X7_isWidth_code, by decide +kernel, by decide +kernel, by decide +kernel⟩
theorem tha_88 : (∀ w ∈ (vx_atS RX8 88 "java/lang/IllegalArgumentException" ["java/lang/RuntimeException", "java/lang/Exception"]).filter goodWord, w ∈ BIG) ∧ (∀ ik, ∀ w ∈ Cond.classLink RX8 ik "java/lang/IllegalArgumentException" :: Cond.initialized "java/lang/IllegalArgumentException" :: vx_atS RX8 88 "java/lang/IllegalArgumentException" ["java/lang/RuntimeException", "java/lang/Exception"], vx_ot w = true) ∧ ∀ w ∈ (vx_atS RX8 88 "java/lang/IllegalArgumentException" ["java/lang/RuntimeException", "java/lang/Exception"]).filter (fun w => !goodWord w), w ∈ ngL "java/lang/IllegalArgumentException" := by
  refine ⟨fun w hw => bigm ((List.all_eq_true.mp (show ((vx_atS RX8 88 "java/lang/IllegalArgumentException" ["java/lang/RuntimeException", "java/lang/Exception"]).filter goodWord).all (fun w => decide (w ∈ lw_tbl)) = true by decide +kernel) w hw) |> of_decide_eq_true) (List.mem_filter.mp hw).2, fun ik w hw => ?_, by decide +kernel⟩
  rcases List.mem_cons.mp hw with h | h
  · rw [h]; rfl
  · exact List.all_eq_true.mp (show (Cond.initialized "java/lang/IllegalArgumentException" :: vx_atS RX8 88 "java/lang/IllegalArgumentException" ["java/lang/RuntimeException", "java/lang/Exception"]).all vx_ot = true by decide +kernel) w h
theorem th_X8_84_86_88 : Th 84 86 88 "java/lang/IllegalArgumentException" "no such WIDTH" := ⟨(bigm (inT2 (List.mem_of_getElem? (i := 70) rfl)) rfl), (bigm (inT1 (List.mem_of_getElem? (i := 13) rfl)) rfl), by decide +kernel, tha_88.1, by decide +kernel, by decide +kernel, tha_88.2.1 84, tha_88.2.2⟩
theorem lk_X8_91 : LkV RX8 91 yX7_open cX7_open 2 (some .int) 1 := ⟨(bigm (inT2 (List.mem_of_getElem? (i := 138) rfl)) rfl), km_X7_open_inst, km_X7_open_sel, ki_X7, km_X7_open_code, by decide +kernel, by decide +kernel, by decide +kernel⟩
theorem tha_99 : (∀ w ∈ (vx_atS RX8 99 "java/lang/IllegalStateException" ["java/lang/RuntimeException", "java/lang/Exception"]).filter goodWord, w ∈ BIG) ∧ (∀ ik, ∀ w ∈ Cond.classLink RX8 ik "java/lang/IllegalStateException" :: Cond.initialized "java/lang/IllegalStateException" :: vx_atS RX8 99 "java/lang/IllegalStateException" ["java/lang/RuntimeException", "java/lang/Exception"], vx_ot w = true) ∧ ∀ w ∈ (vx_atS RX8 99 "java/lang/IllegalStateException" ["java/lang/RuntimeException", "java/lang/Exception"]).filter (fun w => !goodWord w), w ∈ ngL "java/lang/IllegalStateException" := by
  refine ⟨fun w hw => bigm ((List.all_eq_true.mp (show ((vx_atS RX8 99 "java/lang/IllegalStateException" ["java/lang/RuntimeException", "java/lang/Exception"]).filter goodWord).all (fun w => decide (w ∈ lw_tbl)) = true by decide +kernel) w hw) |> of_decide_eq_true) (List.mem_filter.mp hw).2, fun ik w hw => ?_, by decide +kernel⟩
  rcases List.mem_cons.mp hw with h | h
  · rw [h]; rfl
  · exact List.all_eq_true.mp (show (Cond.initialized "java/lang/IllegalStateException" :: vx_atS RX8 99 "java/lang/IllegalStateException" ["java/lang/RuntimeException", "java/lang/Exception"]).all vx_ot = true by decide +kernel) w h
theorem th_X8_95_97_99 : Th 95 97 99 "java/lang/IllegalStateException" "there are 8 SHEETS" := ⟨(bigm (inT2 (List.mem_of_getElem? (i := 142) rfl)) rfl), (bigm (inT1 (List.mem_of_getElem? (i := 14) rfl)) rfl), by decide +kernel, tha_99.1, by decide +kernel, by decide +kernel, tha_99.2.1 95, tha_99.2.2⟩
theorem lk_X8_100 : LkV RX8 100 yX8_slotOf cX8_slotOf 4 (some .int) 2 := ⟨(bigm (inT2 (List.mem_of_getElem? (i := 166) rfl)) rfl), km_X8_slotOf_inst, km_X8_slotOf_sel, ki_X8, km_X8_slotOf_code, by decide +kernel, by decide +kernel, by decide +kernel⟩
theorem lk_X8_104 : LkV RX8 104 yX7_renew cX7_renew 4 none 2 := ⟨(bigm (inT2 (List.mem_of_getElem? (i := 190) rfl)) rfl), km_X7_renew_inst, km_X7_renew_sel, ki_X7, km_X7_renew_code, by decide +kernel, by decide +kernel, by decide +kernel⟩
theorem lk_X8_108 : LkV RX8 108 yX7_lengthAt cX7_lengthAt 2 (some .int) 1 := ⟨(bigm (inT2 (List.mem_of_getElem? (i := 217) rfl)) rfl), km_X7_lengthAt_inst, km_X7_lengthAt_sel, ki_X7, km_X7_lengthAt_code, by decide +kernel, by decide +kernel, by decide +kernel⟩
theorem lk_X8_111 : LkV RX8 111 yX7_write cX7_write 6 (some .boolean) 3 := ⟨(bigm (inT2 (List.mem_of_getElem? (i := 218) rfl)) rfl), km_X7_write_inst, km_X7_write_sel, ki_X7, km_X7_write_code, by decide +kernel, by decide +kernel, by decide +kernel⟩
theorem lk_X8_115 : LkV RX8 115 yX7_slotAt cX7_slotAt 3 (some .int) 2 := ⟨(bigm (inT2 (List.mem_of_getElem? (i := 170) rfl)) rfl), km_X7_slotAt_inst, km_X7_slotAt_sel, ki_X7, km_X7_slotAt_code, by decide +kernel, by decide +kernel, by decide +kernel⟩
theorem tha_122 : (∀ w ∈ (vx_atS RX8 122 "java/lang/IndexOutOfBoundsException" ["java/lang/RuntimeException", "java/lang/Exception"]).filter goodWord, w ∈ BIG) ∧ (∀ ik, ∀ w ∈ Cond.classLink RX8 ik "java/lang/IndexOutOfBoundsException" :: Cond.initialized "java/lang/IndexOutOfBoundsException" :: vx_atS RX8 122 "java/lang/IndexOutOfBoundsException" ["java/lang/RuntimeException", "java/lang/Exception"], vx_ot w = true) ∧ ∀ w ∈ (vx_atS RX8 122 "java/lang/IndexOutOfBoundsException" ["java/lang/RuntimeException", "java/lang/Exception"]).filter (fun w => !goodWord w), w ∈ ngL "java/lang/IndexOutOfBoundsException" := by
  refine ⟨fun w hw => bigm ((List.all_eq_true.mp (show ((vx_atS RX8 122 "java/lang/IndexOutOfBoundsException" ["java/lang/RuntimeException", "java/lang/Exception"]).filter goodWord).all (fun w => decide (w ∈ lw_tbl)) = true by decide +kernel) w hw) |> of_decide_eq_true) (List.mem_filter.mp hw).2, fun ik w hw => ?_, by decide +kernel⟩
  rcases List.mem_cons.mp hw with h | h
  · rw [h]; rfl
  · exact List.all_eq_true.mp (show (Cond.initialized "java/lang/IndexOutOfBoundsException" :: vx_atS RX8 122 "java/lang/IndexOutOfBoundsException" ["java/lang/RuntimeException", "java/lang/Exception"]).all vx_ot = true by decide +kernel) w h
theorem th_X8_118_120_122 : Th 118 120 122 "java/lang/IndexOutOfBoundsException" "no such SHEET or ROW" := ⟨(bigm (inT2 (List.mem_of_getElem? (i := 174) rfl)) rfl), (bigm (inT1 (List.mem_of_getElem? (i := 15) rfl)) rfl), by decide +kernel, tha_122.1, by decide +kernel, by decide +kernel, tha_122.2.1 118, tha_122.2.2⟩
theorem lk_X8_123 : LkV RX8 123 yX4_hasRoomToFeed cX4_hasRoomToFeed 1 (some .boolean) 0 := ⟨(bigm (inT1 (List.mem_of_getElem? (i := 203) rfl)) rfl), km_X4_hasRoomToFeed_inst, km_X4_hasRoomToFeed_sel, ki_X4, km_X4_hasRoomToFeed_code, by decide +kernel, by decide +kernel, by decide +kernel⟩
theorem lk_X8_127 : LkV RX8 127 yX4_append cX4_append 3 none 1 := ⟨(bigm (inT1 (List.mem_of_getElem? (i := 207) rfl)) rfl), km_X4_append_inst, km_X4_append_sel, ki_X4, km_X4_append_code, by decide +kernel, by decide +kernel, by decide +kernel⟩
theorem lk_X8_131 : LkV RX8 131 yX4_fed cX4_fed 1 (some .int) 0 := ⟨(bigm (inT1 (List.mem_of_getElem? (i := 211) rfl)) rfl), km_X4_fed_inst, km_X4_fed_sel, ki_X4, km_X4_fed_code, by decide +kernel, by decide +kernel, by decide +kernel⟩
theorem th_X8_84_135_88 : Th 84 135 88 "java/lang/IllegalArgumentException" "not so many bytes on the TAPE" := ⟨(bigm (inT2 (List.mem_of_getElem? (i := 70) rfl)) rfl), (bigm (inT1 (List.mem_of_getElem? (i := 13) rfl)) rfl), by decide +kernel, tha_88.1, by decide +kernel, by decide +kernel, tha_88.2.1 84, tha_88.2.2⟩
theorem lk_X8_137 : LkV RX8 137 yX4_readTape cX4_readTape 3 (some .int) 1 := ⟨(bigm (inT2 (List.mem_of_getElem? (i := 234) rfl)) rfl), km_X4_readTape_inst, km_X4_readTape_sel, ki_X4, km_X4_readTape_code, by decide +kernel, by decide +kernel, by decide +kernel⟩
theorem lk_X8_140 : LkV RX8 140 yX4_made cX4_made 1 (some .int) 0 := ⟨(bigm (inT1 (List.mem_of_getElem? (i := 235) rfl)) rfl), km_X4_made_inst, km_X4_made_sel, ki_X4, km_X4_made_code, by decide +kernel, by decide +kernel, by decide +kernel⟩
theorem th_X8_118_143_122 : Th 118 143 122 "java/lang/IndexOutOfBoundsException" "no such FIT" := ⟨(bigm (inT2 (List.mem_of_getElem? (i := 174) rfl)) rfl), (bigm (inT1 (List.mem_of_getElem? (i := 15) rfl)) rfl), by decide +kernel, tha_122.1, by decide +kernel, by decide +kernel, tha_122.2.1 118, tha_122.2.2⟩
theorem lk_X8_145 : LkV RX8 145 yX4_holds cX4_holds 11 (some .boolean) 4 := ⟨(bigm (inT3 (List.mem_of_getElem? (i := 79) rfl)) rfl), km_X4_holds_inst, km_X4_holds_sel, ki_X4, km_X4_holds_code, by decide +kernel, by decide +kernel, by decide +kernel⟩
theorem lk_X8_149 : LkS RX8 149 yX6_isModel cX6_isModel 1 (some .boolean) 1 := ⟨(bigm (inT3 (List.mem_of_getElem? (i := 98) rfl)) rfl), km_X6_isModel_static, ki_X6, km_X6_isModel_code, by decide +kernel, by decide +kernel, by decide +kernel⟩
theorem th_X8_84_152_88 : Th 84 152 88 "java/lang/IllegalArgumentException" "no such MODEL" := ⟨(bigm (inT2 (List.mem_of_getElem? (i := 70) rfl)) rfl), (bigm (inT1 (List.mem_of_getElem? (i := 13) rfl)) rfl), by decide +kernel, tha_88.1, by decide +kernel, by decide +kernel, tha_88.2.1 84, tha_88.2.2⟩
theorem lk_X8_154 : LkV RX8 154 yX8_hasNumberBeyond cX8_hasNumberBeyond 4 (some .boolean) 2 := ⟨(bigm (inT3 (List.mem_of_getElem? (i := 102) rfl)) rfl), km_X8_hasNumberBeyond_inst, km_X8_hasNumberBeyond_sel, ki_X8, km_X8_hasNumberBeyond_code, by decide +kernel, by decide +kernel, by decide +kernel⟩
theorem lk_X8_158 : LkV RX8 158 yX8_breaksShellRule cX8_breaksShellRule 4 (some .boolean) 2 := ⟨(bigm (inT3 (List.mem_of_getElem? (i := 126) rfl)) rfl), km_X8_breaksShellRule_inst, km_X8_breaksShellRule_sel, ki_X8, km_X8_breaksShellRule_code, by decide +kernel, by decide +kernel, by decide +kernel⟩
theorem lk_X8_161 : LkV RX8 161 yX6_partsOf cX6_partsOf 2 (some .int) 1 := ⟨(bigm (inT3 (List.mem_of_getElem? (i := 121) rfl)) rfl), km_X6_partsOf_inst, km_X6_partsOf_sel, ki_X6, km_X6_partsOf_code, by decide +kernel, by decide +kernel, by decide +kernel⟩
theorem lk_X8_164 : LkV RX8 164 yX8_addPart cX8_addPart 5 (some .int) 2 := ⟨(bigm (inT3 (List.mem_of_getElem? (i := 135) rfl)) rfl), km_X8_addPart_inst, km_X8_addPart_sel, ki_X8, km_X8_addPart_code, by decide +kernel, by decide +kernel, by decide +kernel⟩
theorem tha_171 : (∀ w ∈ (nsL.filter vx_no).filter goodWord, w ∈ BIG) ∧ (∀ ik, ∀ w ∈ Cond.classLink RX8 ik "java/util/NoSuchElementException" :: Cond.initialized "java/util/NoSuchElementException" :: nsL.filter vx_no, vx_ot w = true) ∧ ∀ w ∈ (nsL.filter vx_no).filter (fun w => !goodWord w), w ∈ ngL "java/util/NoSuchElementException" := by
  refine ⟨fun w hw => bigm ((List.all_eq_true.mp (show ((nsL.filter vx_no).filter goodWord).all (fun w => decide (w ∈ lw_tbl)) = true by decide +kernel) w hw) |> of_decide_eq_true) (List.mem_filter.mp hw).2, fun ik w hw => ?_, by decide +kernel⟩
  rcases List.mem_cons.mp hw with h | h
  · rw [h]; rfl
  · exact List.all_eq_true.mp (show (Cond.initialized "java/util/NoSuchElementException" :: nsL.filter vx_no).all vx_ot = true by decide +kernel) w h
theorem th_X8_167_169_171 : ThN 167 169 "no such PART" := ⟨(bigm (inT3 (List.mem_of_getElem? (i := 155) rfl)) rfl), (bigm (inT1 (List.mem_of_getElem? (i := 17) rfl)) rfl), by decide +kernel, tha_171.1, tha_171.2.1 167, tha_171.2.2⟩
theorem th_X8_84_172_88 : Th 84 172 88 "java/lang/IllegalArgumentException" "no such what" := ⟨(bigm (inT2 (List.mem_of_getElem? (i := 70) rfl)) rfl), (bigm (inT1 (List.mem_of_getElem? (i := 13) rfl)) rfl), by decide +kernel, tha_88.1, by decide +kernel, by decide +kernel, tha_88.2.1 84, tha_88.2.2⟩
theorem lk_X8_174 : LkV RX8 174 yX6_factOf cX6_factOf 5 (some .int) 3 := ⟨(bigm (inT2 (List.mem_of_getElem? (i := 38) rfl)) rfl), km_X6_factOf_inst, km_X6_factOf_sel, ki_X6, km_X6_factOf_code, by decide +kernel, by decide +kernel, by decide +kernel⟩
theorem lk_X8_178 : LkV RX8 178 yX7_read cX7_read 4 (some .long) 2 := ⟨(bigm (inT3 (List.mem_of_getElem? (i := 110) rfl)) rfl), km_X7_read_inst, km_X7_read_sel, ki_X7, km_X7_read_code, by decide +kernel, by decide +kernel, by decide +kernel⟩
theorem kc_X8_182 : Cond.constantLong RX8 182 (-1) ∈ BIG := (bigm (inT3 (List.mem_of_getElem? (i := 114) rfl)) rfl)
theorem lk_X8_184 : LkV RX8 184 yX8_rowSays cX8_rowSays 3 (some .long) 2 := ⟨(bigm (inT3 (List.mem_of_getElem? (i := 106) rfl)) rfl), km_X8_rowSays_inst, km_X8_rowSays_sel, ki_X8, km_X8_rowSays_code, by decide +kernel, by decide +kernel, by decide +kernel⟩
theorem lk_X8_187 : LkV RX8 187 yX8_isBeyond cX8_isBeyond 5 (some .boolean) 3 := ⟨(bigm (inT3 (List.mem_of_getElem? (i := 115) rfl)) rfl), km_X8_isBeyond_inst, km_X8_isBeyond_sel, ki_X8, km_X8_isBeyond_code, by decide +kernel, by decide +kernel, by decide +kernel⟩
theorem kc_X8_190 : Cond.constantLong RX8 190 (5) ∈ BIG := (bigm (inT3 (List.mem_of_getElem? (i := 119) rfl)) rfl)
theorem kc_X8_192 : Cond.constantLong RX8 192 (99) ∈ BIG := (bigm (inT3 (List.mem_of_getElem? (i := 120) rfl)) rfl)
theorem kc_X8_194 : Cond.constantLong RX8 194 (240) ∈ BIG := (bigm (inT3 (List.mem_of_getElem? (i := 122) rfl)) rfl)
theorem kc_X8_196 : Cond.constantLong RX8 196 (200000) ∈ BIG := (bigm (inT3 (List.mem_of_getElem? (i := 123) rfl)) rfl)
theorem kc_X8_198 : Cond.constantLong RX8 198 (4) ∈ BIG := (bigm (inT3 (List.mem_of_getElem? (i := 124) rfl)) rfl)
theorem kc_X8_200 : Cond.constantLong RX8 200 (100000) ∈ BIG := (bigm (inT3 (List.mem_of_getElem? (i := 125) rfl)) rfl)
theorem lk_X8_202 : LkV RX8 202 yX6_hasShell cX6_hasShell 3 (some .boolean) 1 := ⟨(bigm (inT3 (List.mem_of_getElem? (i := 130) rfl)) rfl), km_X6_hasShell_inst, km_X6_hasShell_sel, ki_X6, km_X6_hasShell_code, by decide +kernel, by decide +kernel, by decide +kernel⟩
theorem lk_X8_205 : LkV RX8 205 yX6_add cX6_add 3 (some .int) 1 := ⟨(bigm (inT3 (List.mem_of_getElem? (i := 139) rfl)) rfl), km_X6_add_inst, km_X6_add_sel, ki_X6, km_X6_add_code, by decide +kernel, by decide +kernel, by decide +kernel⟩
theorem lk_X8_208 : LkV RX8 208 yX6_store cX6_store 6 none 4 := ⟨(bigm (inT3 (List.mem_of_getElem? (i := 143) rfl)) rfl), km_X6_store_inst, km_X6_store_sel, ki_X6, km_X6_store_code, by decide +kernel, by decide +kernel, by decide +kernel⟩
theorem th_X8_84_212_88 : Th 84 212 88 "java/lang/IllegalArgumentException" "no such MODEL, or one without PARTS" := ⟨(bigm (inT2 (List.mem_of_getElem? (i := 70) rfl)) rfl), (bigm (inT1 (List.mem_of_getElem? (i := 13) rfl)) rfl), by decide +kernel, tha_88.1, by decide +kernel, by decide +kernel, tha_88.2.1 84, tha_88.2.2⟩
theorem th_X8_84_214_88 : Th 84 214 88 "java/lang/IllegalArgumentException" "YEAR or MARKS beyond" := ⟨(bigm (inT2 (List.mem_of_getElem? (i := 70) rfl)) rfl), (bigm (inT1 (List.mem_of_getElem? (i := 13) rfl)) rfl), by decide +kernel, tha_88.1, by decide +kernel, by decide +kernel, tha_88.2.1 84, tha_88.2.2⟩
theorem th_X8_84_216_88 : Th 84 216 88 "java/lang/IllegalArgumentException" "it lacks what is no PART of it" := ⟨(bigm (inT2 (List.mem_of_getElem? (i := 70) rfl)) rfl), (bigm (inT1 (List.mem_of_getElem? (i := 13) rfl)) rfl), by decide +kernel, tha_88.1, by decide +kernel, by decide +kernel, tha_88.2.1 84, tha_88.2.2⟩
theorem lk_X8_218 : LkC RX8 218 yX1_init cX1_init 7 6 := ⟨(bigm (inT3 (List.mem_of_getElem? (i := 183) rfl)) rfl), km_X1_init_inst, ki_X1, km_X1_init_code, rfl, by decide +kernel, by decide +kernel, by decide +kernel⟩
theorem lk_X8_221 : LkV RX8 221 yX8_weighComing cX8_weighComing 3 none 1 := ⟨(bigm (inT3 (List.mem_of_getElem? (i := 224) rfl)) rfl), km_X8_weighComing_inst, km_X8_weighComing_sel, ki_X8, km_X8_weighComing_code, by decide +kernel, by decide +kernel, by decide +kernel⟩
theorem lk_X8_225 : LkV RX8 225 yX0_forget cX0_forget 1 none 0 := ⟨(bigm (inT3 (List.mem_of_getElem? (i := 232) rfl)) rfl), km_X0_forget_inst, km_X0_forget_sel, ki_X0, km_X0_forget_code, by decide +kernel, by decide +kernel, by decide +kernel⟩
theorem lk_X8_228 : LkV RX8 228 yX8_carOf cX8_carOf 3 (some (.object "BreakersYard$Car")) 1 := ⟨(bigm (inT4 (List.mem_of_getElem? (i := 3) rfl)) rfl), km_X8_carOf_inst, km_X8_carOf_sel, ki_X8, km_X8_carOf_code, by decide +kernel, by decide +kernel, by decide +kernel⟩
theorem lk_X8_257 : LkV RX8 257 yX0_remember cX0_remember 3 none 2 := ⟨(bigm (inT4 (List.mem_of_getElem? (i := 15) rfl)) rfl), km_X0_remember_inst, km_X0_remember_sel, ki_X0, km_X0_remember_code, by decide +kernel, by decide +kernel, by decide +kernel⟩
theorem lk_X8_260 : LkV RX8 260 yX8_carAt cX8_carAt 2 (some (.object "BreakersYard$Car")) 1 := ⟨(bigm (inT2 (List.mem_of_getElem? (i := 54) rfl)) rfl), km_X8_carAt_inst, km_X8_carAt_sel, ki_X8, km_X8_carAt_code, by decide +kernel, by decide +kernel, by decide +kernel⟩
theorem th_X8_167_263_171 : ThN 167 263 "no such CAR" := ⟨(bigm (inT3 (List.mem_of_getElem? (i := 155) rfl)) rfl), (bigm (inT1 (List.mem_of_getElem? (i := 17) rfl)) rfl), by decide +kernel, tha_171.1, tha_171.2.1 167, tha_171.2.2⟩
theorem th_X8_167_268_171 : ThN 167 268 "no such PART of the CAR" := ⟨(bigm (inT3 (List.mem_of_getElem? (i := 155) rfl)) rfl), (bigm (inT1 (List.mem_of_getElem? (i := 17) rfl)) rfl), by decide +kernel, tha_171.1, tha_171.2.1 167, tha_171.2.2⟩
theorem lk_X8_270 : LkV RX8 270 yX1_isOn cX1_isOn 2 (some .boolean) 1 := ⟨(bigm (inT3 (List.mem_of_getElem? (i := 228) rfl)) rfl), km_X1_isOn_inst, km_X1_isOn_sel, ki_X1, km_X1_isOn_code, by decide +kernel, by decide +kernel, by decide +kernel⟩
theorem lk_X8_273 : LkV RX8 273 yX8_weigh cX8_weigh 6 none 4 := ⟨(bigm (inT2 (List.mem_of_getElem? (i := 34) rfl)) rfl), km_X8_weigh_inst, km_X8_weigh_sel, ki_X8, km_X8_weigh_code, by decide +kernel, by decide +kernel, by decide +kernel⟩
theorem lk_X8_276 : LkV RX8 276 yX8_carWithPart cX8_carWithPart 4 (some (.object "BreakersYard$Car")) 2 := ⟨(bigm (inT4 (List.mem_of_getElem? (i := 37) rfl)) rfl), km_X8_carWithPart_inst, km_X8_carWithPart_sel, ki_X8, km_X8_carWithPart_code, by decide +kernel, by decide +kernel, by decide +kernel⟩
theorem lk_X8_280 : LkV RX8 280 yX8_hindranceOf cX8_hindranceOf 5 (some .int) 2 := ⟨(bigm (inT4 (List.mem_of_getElem? (i := 42) rfl)) rfl), km_X8_hindranceOf_inst, km_X8_hindranceOf_sel, ki_X8, km_X8_hindranceOf_code, by decide +kernel, by decide +kernel, by decide +kernel⟩
theorem lk_X8_284 : LkC RX8 284 yX5_init cX5_init 4 3 := ⟨(bigm (inT4 (List.mem_of_getElem? (i := 57) rfl)) rfl), km_X5_init_inst, ki_X5, km_X5_init_code, rfl, by decide +kernel, by decide +kernel, by decide +kernel⟩
theorem lk_X8_287 : LkV RX8 287 yX8_addItem cX8_addItem 2 (some .int) 1 := ⟨(bigm (inT4 (List.mem_of_getElem? (i := 86) rfl)) rfl), km_X8_addItem_inst, km_X8_addItem_sel, ki_X8, km_X8_addItem_code, by decide +kernel, by decide +kernel, by decide +kernel⟩
theorem lk_X8_291 : LkV RX8 291 yX8_pressHindranceOf cX8_pressHindranceOf 2 (some .int) 1 := ⟨(bigm (inT4 (List.mem_of_getElem? (i := 97) rfl)) rfl), km_X8_pressHindranceOf_inst, km_X8_pressHindranceOf_sel, ki_X8, km_X8_pressHindranceOf_code, by decide +kernel, by decide +kernel, by decide +kernel⟩
theorem lk_X8_295 : LkS RX8 295 yX8_needsDraining cX8_needsDraining 1 (some .boolean) 1 := ⟨(bigm (inT4 (List.mem_of_getElem? (i := 46) rfl)) rfl), km_X8_needsDraining_static, ki_X8, km_X8_needsDraining_code, by decide +kernel, by decide +kernel, by decide +kernel⟩
theorem lk_X8_298 : LkV RX8 298 yX8_hasDangerOn cX8_hasDangerOn 3 (some .boolean) 1 := ⟨(bigm (inT4 (List.mem_of_getElem? (i := 101) rfl)) rfl), km_X8_hasDangerOn_inst, km_X8_hasDangerOn_sel, ki_X8, km_X8_hasDangerOn_code, by decide +kernel, by decide +kernel, by decide +kernel⟩
theorem th_X8_84_302_88 : Th 84 302 88 "java/lang/IllegalArgumentException" "DAYS are 0 to 10,000 at a time" := ⟨(bigm (inT2 (List.mem_of_getElem? (i := 70) rfl)) rfl), (bigm (inT1 (List.mem_of_getElem? (i := 13) rfl)) rfl), by decide +kernel, tha_88.1, by decide +kernel, by decide +kernel, tha_88.2.1 84, tha_88.2.2⟩
theorem kc_X8_304 : Cond.constant RX8 304 (1000000) ∈ BIG := (bigm (inT4 (List.mem_of_getElem? (i := 113) rfl)) rfl)
theorem th_X8_95_305_99 : Th 95 305 99 "java/lang/IllegalStateException" "the DAY would be above 1,000,000" := ⟨(bigm (inT2 (List.mem_of_getElem? (i := 142) rfl)) rfl), (bigm (inT1 (List.mem_of_getElem? (i := 14) rfl)) rfl), by decide +kernel, tha_99.1, by decide +kernel, by decide +kernel, tha_99.2.1 95, tha_99.2.2⟩
theorem lk_X8_307 : LkV RX8 307 yX8_isLate cX8_isLate 4 (some .boolean) 2 := ⟨(bigm (inT4 (List.mem_of_getElem? (i := 122) rfl)) rfl), km_X8_isLate_inst, km_X8_isLate_sel, ki_X8, km_X8_isLate_code, by decide +kernel, by decide +kernel, by decide +kernel⟩
theorem lk_X8_311 : LkV RX8 311 yX8_itemOf cX8_itemOf 3 (some (.object "BreakersYard$Item")) 1 := ⟨(bigm (inT4 (List.mem_of_getElem? (i := 133) rfl)) rfl), km_X8_itemOf_inst, km_X8_itemOf_sel, ki_X8, km_X8_itemOf_code, by decide +kernel, by decide +kernel, by decide +kernel⟩
theorem lk_X8_324 : LkV RX8 324 yX8_valueOf cX8_valueOf 6 (some .int) 1 := ⟨(bigm (inT4 (List.mem_of_getElem? (i := 138) rfl)) rfl), km_X8_valueOf_inst, km_X8_valueOf_sel, ki_X8, km_X8_valueOf_code, by decide +kernel, by decide +kernel, by decide +kernel⟩
theorem th_X8_84_333_88 : Th 84 333 88 "java/lang/IllegalArgumentException" "NAME is not 0 to 99" := ⟨(bigm (inT2 (List.mem_of_getElem? (i := 70) rfl)) rfl), (bigm (inT1 (List.mem_of_getElem? (i := 13) rfl)) rfl), by decide +kernel, tha_88.1, by decide +kernel, by decide +kernel, tha_88.2.1 84, tha_88.2.2⟩
theorem lk_X8_335 : LkV RX8 335 yX2_clear cX2_clear 1 none 0 := ⟨(bigm (inT4 (List.mem_of_getElem? (i := 155) rfl)) rfl), km_X2_clear_inst, km_X2_clear_sel, ki_X2, km_X2_clear_code, by decide +kernel, by decide +kernel, by decide +kernel⟩
theorem lk_X8_338 : LkV RX8 338 yX8_itemAt cX8_itemAt 2 (some (.object "BreakersYard$Item")) 1 := ⟨(bigm (inT2 (List.mem_of_getElem? (i := 19) rfl)) rfl), km_X8_itemAt_inst, km_X8_itemAt_sel, ki_X8, km_X8_itemAt_code, by decide +kernel, by decide +kernel, by decide +kernel⟩
theorem lk_X8_341 : LkV RX8 341 yX8_factOf cX8_factOf 3 (some .int) 2 := ⟨(bigm (inT4 (List.mem_of_getElem? (i := 142) rfl)) rfl), km_X8_factOf_inst, km_X8_factOf_sel, ki_X8, km_X8_factOf_code, by decide +kernel, by decide +kernel, by decide +kernel⟩
theorem lk_X8_344 : LkV RX8 344 yX8_standsFor cX8_standsFor 6 (some .boolean) 4 := ⟨(bigm (inT4 (List.mem_of_getElem? (i := 159) rfl)) rfl), km_X8_standsFor_inst, km_X8_standsFor_sel, ki_X8, km_X8_standsFor_code, by decide +kernel, by decide +kernel, by decide +kernel⟩
theorem lk_X8_349 : LkV RX8 349 yX2_insert cX2_insert 5 none 3 := ⟨(bigm (inT4 (List.mem_of_getElem? (i := 163) rfl)) rfl), km_X2_insert_inst, km_X2_insert_sel, ki_X2, km_X2_insert_code, by decide +kernel, by decide +kernel, by decide +kernel⟩
theorem lk_X8_353 : LkV RX8 353 yX2_size cX2_size 1 (some .int) 0 := ⟨(bigm (inT4 (List.mem_of_getElem? (i := 175) rfl)) rfl), km_X2_size_inst, km_X2_size_sel, ki_X2, km_X2_size_code, by decide +kernel, by decide +kernel, by decide +kernel⟩
theorem lk_X8_356 : LkV RX8 356 yX2_numberAt cX2_numberAt 2 (some .int) 1 := ⟨(bigm (inT1 (List.mem_of_getElem? (i := 219) rfl)) rfl), km_X2_numberAt_inst, km_X2_numberAt_sel, ki_X2, km_X2_numberAt_code, by decide +kernel, by decide +kernel, by decide +kernel⟩
theorem th_X8_167_359_171 : ThN 167 359 "no such ITEM" := ⟨(bigm (inT3 (List.mem_of_getElem? (i := 155) rfl)) rfl), (bigm (inT1 (List.mem_of_getElem? (i := 17) rfl)) rfl), by decide +kernel, tha_171.1, tha_171.2.1 167, tha_171.2.2⟩
theorem lk_X8_361 : LkV RX8 361 yX8_move cX8_move 3 none 2 := ⟨(bigm (inT2 (List.mem_of_getElem? (i := 27) rfl)) rfl), km_X8_move_inst, km_X8_move_sel, ki_X8, km_X8_move_code, by decide +kernel, by decide +kernel, by decide +kernel⟩
theorem km_X8_365 : Cond.methodLink RX8 365 Lib.Math.min.name ∈ BIG := (bigm (inT4 (List.mem_of_getElem? (i := 146) rfl)) rfl)
theorem lk_X8_370 : LkS RX8 370 yX8_gateOf cX8_gateOf 1 (some .int) 1 := ⟨(bigm (inT2 (List.mem_of_getElem? (i := 31) rfl)) rfl), km_X8_gateOf_static, ki_X8, km_X8_gateOf_code, by decide +kernel, by decide +kernel, by decide +kernel⟩
theorem th_X8_84_373_88 : Th 84 373 88 "java/lang/IllegalArgumentException" "trade is not 0 or 1" := ⟨(bigm (inT2 (List.mem_of_getElem? (i := 70) rfl)) rfl), (bigm (inT1 (List.mem_of_getElem? (i := 13) rfl)) rfl), by decide +kernel, tha_88.1, by decide +kernel, by decide +kernel, tha_88.2.1 84, tha_88.2.2⟩
theorem lk_X8_375 : LkV RX8 375 yX8_sellFor cX8_sellFor 3 (some .int) 2 := ⟨(bigm (inT4 (List.mem_of_getElem? (i := 187) rfl)) rfl), km_X8_sellFor_inst, km_X8_sellFor_sel, ki_X8, km_X8_sellFor_code, by decide +kernel, by decide +kernel, by decide +kernel⟩
theorem lk_X8_378 : LkV RX8 378 yX8_otherOfPair cX8_otherOfPair 4 (some (.object "BreakersYard$Item")) 1 := ⟨(bigm (inT4 (List.mem_of_getElem? (i := 191) rfl)) rfl), km_X8_otherOfPair_inst, km_X8_otherOfPair_sel, ki_X8, km_X8_otherOfPair_code, by decide +kernel, by decide +kernel, by decide +kernel⟩
theorem th_X8_84_382_88 : Th 84 382 88 "java/lang/IllegalArgumentException" "bad is not 0 or 1" := ⟨(bigm (inT2 (List.mem_of_getElem? (i := 70) rfl)) rfl), (bigm (inT1 (List.mem_of_getElem? (i := 13) rfl)) rfl), by decide +kernel, tha_88.1, by decide +kernel, by decide +kernel, tha_88.2.1 84, tha_88.2.2⟩
theorem lk_X8_384 : LkS RX8 384 yX8_wageOf cX8_wageOf 1 (some .int) 1 := ⟨(bigm (inT4 (List.mem_of_getElem? (i := 210) rfl)) rfl), km_X8_wageOf_static, ki_X8, km_X8_wageOf_code, by decide +kernel, by decide +kernel, by decide +kernel⟩
theorem lk_X8_387 : LkV RX8 387 yX8_bestOf cX8_bestOf 7 (some .int) 2 := ⟨(bigm (inT4 (List.mem_of_getElem? (i := 214) rfl)) rfl), km_X8_bestOf_inst, km_X8_bestOf_sel, ki_X8, km_X8_bestOf_code, by decide +kernel, by decide +kernel, by decide +kernel⟩
theorem lk_X8_390 : LkV RX8 390 yX8_gainOf cX8_gainOf 7 (some .int) 3 := ⟨(bigm (inT4 (List.mem_of_getElem? (i := 227) rfl)) rfl), km_X8_gainOf_inst, km_X8_gainOf_sel, ki_X8, km_X8_gainOf_code, by decide +kernel, by decide +kernel, by decide +kernel⟩
theorem th_X8_84_394_88 : Th 84 394 88 "java/lang/IllegalArgumentException" "no such WAGE" := ⟨(bigm (inT2 (List.mem_of_getElem? (i := 70) rfl)) rfl), (bigm (inT1 (List.mem_of_getElem? (i := 13) rfl)) rfl), by decide +kernel, tha_88.1, by decide +kernel, by decide +kernel, tha_88.2.1 84, tha_88.2.2⟩
theorem lk_X8_396 : LkV RX8 396 yX8_sumGains cX8_sumGains 5 none 2 := ⟨(bigm (inT4 (List.mem_of_getElem? (i := 218) rfl)) rfl), km_X8_sumGains_inst, km_X8_sumGains_sel, ki_X8, km_X8_sumGains_code, by decide +kernel, by decide +kernel, by decide +kernel⟩
theorem lk_X8_400 : LkV RX8 400 yX8_mayBeChosen cX8_mayBeChosen 4 (some .boolean) 2 := ⟨(bigm (inT4 (List.mem_of_getElem? (i := 223) rfl)) rfl), km_X8_mayBeChosen_inst, km_X8_mayBeChosen_sel, ki_X8, km_X8_mayBeChosen_code, by decide +kernel, by decide +kernel, by decide +kernel⟩
theorem lk_X8_403 : LkS RX8 403 yJ7_fill_53178 cJ7_fill_53178 4 none 2 := ⟨(bigm (inT4 (List.mem_of_getElem? (i := 222) rfl)) rfl), km_J7_fill_53178_static, ki_J7, km_J7_fill_53178_code, by decide +kernel, by decide +kernel, by decide +kernel⟩
theorem lk_X8_409 : LkV RX8 409 yX8_weightPlace cX8_weightPlace 5 (some .int) 2 := ⟨(bigm (inT2 (List.mem_of_getElem? (i := 50) rfl)) rfl), km_X8_weightPlace_inst, km_X8_weightPlace_sel, ki_X8, km_X8_weightPlace_code, by decide +kernel, by decide +kernel, by decide +kernel⟩
theorem th_X8_84_412_88 : Th 84 412 88 "java/lang/IllegalArgumentException" "no such STUFF or what" := ⟨(bigm (inT2 (List.mem_of_getElem? (i := 70) rfl)) rfl), (bigm (inT1 (List.mem_of_getElem? (i := 13) rfl)) rfl), by decide +kernel, tha_88.1, by decide +kernel, by decide +kernel, tha_88.2.1 84, tha_88.2.2⟩
theorem lk_X8_414 : LkV RX8 414 yX7_made cX7_made 1 (some .int) 0 := ⟨(bigm (inT1 (List.mem_of_getElem? (i := 231) rfl)) rfl), km_X7_made_inst, km_X7_made_sel, ki_X7, km_X7_made_code, by decide +kernel, by decide +kernel, by decide +kernel⟩
theorem lk_X8_415 : LkV RX8 415 yX0_held cX0_held 1 (some .int) 0 := ⟨(bigm (inT1 (List.mem_of_getElem? (i := 239) rfl)) rfl), km_X0_held_inst, km_X0_held_sel, ki_X0, km_X0_held_code, by decide +kernel, by decide +kernel, by decide +kernel⟩
theorem lk_X8_418 : LkV RX8 418 yX0_latestAct cX0_latestAct 1 (some .int) 0 := ⟨(bigm (inT2 (List.mem_of_getElem? (i := 7) rfl)) rfl), km_X0_latestAct_inst, km_X0_latestAct_sel, ki_X0, km_X0_latestAct_code, by decide +kernel, by decide +kernel, by decide +kernel⟩
theorem lk_X8_421 : LkV RX8 421 yX0_latestNumber cX0_latestNumber 1 (some .int) 0 := ⟨(bigm (inT2 (List.mem_of_getElem? (i := 11) rfl)) rfl), km_X0_latestNumber_inst, km_X0_latestNumber_sel, ki_X0, km_X0_latestNumber_code, by decide +kernel, by decide +kernel, by decide +kernel⟩
theorem lk_X8_424 : LkV RX8 424 yX0_dropLatest cX0_dropLatest 1 none 0 := ⟨(bigm (inT2 (List.mem_of_getElem? (i := 15) rfl)) rfl), km_X0_dropLatest_inst, km_X0_dropLatest_sel, ki_X0, km_X0_dropLatest_code, by decide +kernel, by decide +kernel, by decide +kernel⟩
theorem lk_X8_427 : LkV RX8 427 yX8_putBackOn cX8_putBackOn 3 none 1 := ⟨(bigm (inT2 (List.mem_of_getElem? (i := 23) rfl)) rfl), km_X8_putBackOn_inst, km_X8_putBackOn_sel, ki_X8, km_X8_putBackOn_code, by decide +kernel, by decide +kernel, by decide +kernel⟩
theorem lk_X9_151 : LkV RX9 151 yX9_may cX9_may 3 (some .boolean) 2 := ⟨(bigm (inT5 (List.mem_of_getElem? (i := 207) rfl)) rfl), km_X9_may_inst, km_X9_may_sel, ki_X9, km_X9_may_code, by decide +kernel, by decide +kernel, by decide +kernel⟩
theorem lk_X9_158 : LkV RX9 158 yX9_isRow cX9_isRow 4 (some .boolean) 3 := ⟨(bigm (inT5 (List.mem_of_getElem? (i := 215) rfl)) rfl), km_X9_isRow_inst, km_X9_isRow_sel, ki_X9, km_X9_isRow_code, by decide +kernel, by decide +kernel, by decide +kernel⟩
theorem lk_X9_177 : LkV RX9 177 yX9_here cX9_here 1 (some .int) 0 := ⟨(bigm (inT6 (List.mem_of_getElem? (i := 3) rfl)) rfl), km_X9_here_inst, km_X9_here_sel, ki_X9, km_X9_here_code, by decide +kernel, by decide +kernel, by decide +kernel⟩
theorem lk_X9_181 : LkS RX9 181 yX9_isDigit cX9_isDigit 1 (some .boolean) 1 := ⟨(bigm (inT6 (List.mem_of_getElem? (i := 15) rfl)) rfl), km_X9_isDigit_static, ki_X9, km_X9_isDigit_code, by decide +kernel, by decide +kernel, by decide +kernel⟩
theorem lk_X9_185 : LkV RX9 185 yX9_wrong cX9_wrong 1 none 0 := ⟨(bigm (inT6 (List.mem_of_getElem? (i := 7) rfl)) rfl), km_X9_wrong_inst, km_X9_wrong_sel, ki_X9, km_X9_wrong_code, by decide +kernel, by decide +kernel, by decide +kernel⟩
theorem lk_X9_188 : LkV RX9 188 yX9_fine cX9_fine 1 (some .boolean) 0 := ⟨(bigm (inT5 (List.mem_of_getElem? (i := 235) rfl)) rfl), km_X9_fine_inst, km_X9_fine_sel, ki_X9, km_X9_fine_code, by decide +kernel, by decide +kernel, by decide +kernel⟩
theorem lk_X9_198 : LkV RX9 198 yX9_digits cX9_digits 3 (some .int) 0 := ⟨(bigm (inT6 (List.mem_of_getElem? (i := 11) rfl)) rfl), km_X9_digits_inst, km_X9_digits_sel, ki_X9, km_X9_digits_code, by decide +kernel, by decide +kernel, by decide +kernel⟩
theorem lk_X9_201 : LkV RX9 201 yX9_emit cX9_emit 5 none 3 := ⟨(bigm (inT6 (List.mem_of_getElem? (i := 18) rfl)) rfl), km_X9_emit_inst, km_X9_emit_sel, ki_X9, km_X9_emit_code, by decide +kernel, by decide +kernel, by decide +kernel⟩
theorem lk_X9_205 : LkV RX9 205 yX9_operand cX9_operand 4 (some .boolean) 0 := ⟨(bigm (inT5 (List.mem_of_getElem? (i := 239) rfl)) rfl), km_X9_operand_inst, km_X9_operand_sel, ki_X9, km_X9_operand_code, by decide +kernel, by decide +kernel, by decide +kernel⟩
theorem lk_X9_208 : LkV RX9 208 yX9_nots cX9_nots 1 none 0 := ⟨(bigm (inT6 (List.mem_of_getElem? (i := 22) rfl)) rfl), km_X9_nots_inst, km_X9_nots_sel, ki_X9, km_X9_nots_code, by decide +kernel, by decide +kernel, by decide +kernel⟩
theorem lk_X9_211 : LkV RX9 211 yX9_settle cX9_settle 2 none 1 := ⟨(bigm (inT6 (List.mem_of_getElem? (i := 26) rfl)) rfl), km_X9_settle_inst, km_X9_settle_sel, ki_X9, km_X9_settle_code, by decide +kernel, by decide +kernel, by decide +kernel⟩
theorem lk_X9_215 : LkV RX9 215 yX9_asks cX9_asks 7 (some .boolean) 4 := ⟨(bigm (inT6 (List.mem_of_getElem? (i := 34) rfl)) rfl), km_X9_asks_inst, km_X9_asks_sel, ki_X9, km_X9_asks_code, by decide +kernel, by decide +kernel, by decide +kernel⟩
theorem kc_X9_219 : Cond.constantLong RX9 219 (-1) ∈ BIG := (bigm (inT6 (List.mem_of_getElem? (i := 46) rfl)) rfl)
theorem kc_X9_221 : Cond.constantLong RX9 221 (5) ∈ BIG := (bigm (inT6 (List.mem_of_getElem? (i := 51) rfl)) rfl)
theorem kc_X9_223 : Cond.constantLong RX9 223 (99) ∈ BIG := (bigm (inT6 (List.mem_of_getElem? (i := 52) rfl)) rfl)
theorem kc_X9_225 : Cond.constantLong RX9 225 (240) ∈ BIG := (bigm (inT6 (List.mem_of_getElem? (i := 53) rfl)) rfl)
theorem kc_X9_227 : Cond.constantLong RX9 227 (200000) ∈ BIG := (bigm (inT6 (List.mem_of_getElem? (i := 54) rfl)) rfl)
theorem kc_X9_229 : Cond.constantLong RX9 229 (3) ∈ BIG := (bigm (inT6 (List.mem_of_getElem? (i := 55) rfl)) rfl)
theorem kc_X9_231 : Cond.constantLong RX9 231 (100000) ∈ BIG := (bigm (inT6 (List.mem_of_getElem? (i := 56) rfl)) rfl)
theorem lk_X9_233 : LkV RX9 233 yX9_least cX9_least 2 (some .long) 1 := ⟨(bigm (inT6 (List.mem_of_getElem? (i := 42) rfl)) rfl), km_X9_least_inst, km_X9_least_sel, ki_X9, km_X9_least_code, by decide +kernel, by decide +kernel, by decide +kernel⟩
theorem lk_X9_237 : LkV RX9 237 yX9_most cX9_most 3 (some .long) 2 := ⟨(bigm (inT6 (List.mem_of_getElem? (i := 47) rfl)) rfl), km_X9_most_inst, km_X9_most_sel, ki_X9, km_X9_most_code, by decide +kernel, by decide +kernel, by decide +kernel⟩
theorem lk_X9_244 : LkV RX9 244 yX9_takeBack cX9_takeBack 3 none 2 := ⟨(bigm (inT6 (List.mem_of_getElem? (i := 65) rfl)) rfl), km_X9_takeBack_inst, km_X9_takeBack_sel, ki_X9, km_X9_takeBack_code, by decide +kernel, by decide +kernel, by decide +kernel⟩
theorem lk_X9_251 : LkV RX9 251 yX9_stuffOf cX9_stuffOf 2 (some .int) 1 := ⟨(bigm (inT6 (List.mem_of_getElem? (i := 69) rfl)) rfl), km_X9_stuffOf_inst, km_X9_stuffOf_sel, ki_X9, km_X9_stuffOf_code, by decide +kernel, by decide +kernel, by decide +kernel⟩
theorem lk_X9_255 : LkV RX9 255 yX9_gramsOf cX9_gramsOf 2 (some .int) 1 := ⟨(bigm (inT6 (List.mem_of_getElem? (i := 77) rfl)) rfl), km_X9_gramsOf_inst, km_X9_gramsOf_sel, ki_X9, km_X9_gramsOf_code, by decide +kernel, by decide +kernel, by decide +kernel⟩
theorem lk_X9_264 : LkV RX9 264 yX9_isOn cX9_isOn 3 (some .boolean) 2 := ⟨(bigm (inT6 (List.mem_of_getElem? (i := 85) rfl)) rfl), km_X9_isOn_inst, km_X9_isOn_sel, ki_X9, km_X9_isOn_code, by decide +kernel, by decide +kernel, by decide +kernel⟩
theorem lk_X9_268 : LkV RX9 268 yX9_isCar cX9_isCar 2 (some .boolean) 1 := ⟨(bigm (inT6 (List.mem_of_getElem? (i := 93) rfl)) rfl), km_X9_isCar_inst, km_X9_isCar_sel, ki_X9, km_X9_isCar_code, by decide +kernel, by decide +kernel, by decide +kernel⟩
theorem lk_X9_271 : LkV RX9 271 yX9_acted cX9_acted 5 none 3 := ⟨(bigm (inT6 (List.mem_of_getElem? (i := 101) rfl)) rfl), km_X9_acted_inst, km_X9_acted_sel, ki_X9, km_X9_acted_code, by decide +kernel, by decide +kernel, by decide +kernel⟩
theorem lk_X9_274 : LkV RX9 274 yX9_partOf cX9_partOf 2 (some .int) 1 := ⟨(bigm (inT6 (List.mem_of_getElem? (i := 73) rfl)) rfl), km_X9_partOf_inst, km_X9_partOf_sel, ki_X9, km_X9_partOf_code, by decide +kernel, by decide +kernel, by decide +kernel⟩
theorem lk_X9_280 : LkV RX9 280 yX9_isPartOf cX9_isPartOf 3 (some .boolean) 2 := ⟨(bigm (inT6 (List.mem_of_getElem? (i := 113) rfl)) rfl), km_X9_isPartOf_inst, km_X9_isPartOf_sel, ki_X9, km_X9_isPartOf_code, by decide +kernel, by decide +kernel, by decide +kernel⟩
theorem lk_X9_283 : LkV RX9 283 yX9_hindrance cX9_hindrance 6 (some .int) 2 := ⟨(bigm (inT6 (List.mem_of_getElem? (i := 117) rfl)) rfl), km_X9_hindrance_inst, km_X9_hindrance_sel, ki_X9, km_X9_hindrance_code, by decide +kernel, by decide +kernel, by decide +kernel⟩
theorem kc_X9_287 : Cond.constant RX9 287 (1000000) ∈ BIG := (bigm (inT6 (List.mem_of_getElem? (i := 133) rfl)) rfl)
theorem lk_X9_288 : LkV RX9 288 yX9_isItem cX9_isItem 2 (some .boolean) 1 := ⟨(bigm (inT6 (List.mem_of_getElem? (i := 142) rfl)) rfl), km_X9_isItem_inst, km_X9_isItem_sel, ki_X9, km_X9_isItem_code, by decide +kernel, by decide +kernel, by decide +kernel⟩
theorem lk_X9_291 : LkV RX9 291 yX9_valueOf cX9_valueOf 6 (some .int) 1 := ⟨(bigm (inT6 (List.mem_of_getElem? (i := 146) rfl)) rfl), km_X9_valueOf_inst, km_X9_valueOf_sel, ki_X9, km_X9_valueOf_code, by decide +kernel, by decide +kernel, by decide +kernel⟩
theorem lk_X9_297 : LkV RX9 297 yX9_insert cX9_insert 5 none 3 := ⟨(bigm (inT6 (List.mem_of_getElem? (i := 154) rfl)) rfl), km_X9_insert_inst, km_X9_insert_sel, ki_X9, km_X9_insert_code, by decide +kernel, by decide +kernel, by decide +kernel⟩
theorem lk_X9_305 : LkV RX9 305 yX9_sells cX9_sells 3 none 2 := ⟨(bigm (inT6 (List.mem_of_getElem? (i := 166) rfl)) rfl), km_X9_sells_inst, km_X9_sells_sel, ki_X9, km_X9_sells_code, by decide +kernel, by decide +kernel, by decide +kernel⟩
theorem lk_X9_311 : LkV RX9 311 yX9_findBest cX9_findBest 8 (some .int) 2 := ⟨(bigm (inT6 (List.mem_of_getElem? (i := 178) rfl)) rfl), km_X9_findBest_inst, km_X9_findBest_sel, ki_X9, km_X9_findBest_code, by decide +kernel, by decide +kernel, by decide +kernel⟩
theorem ko_inst : Cond.instanceMethod objectInit ∈ BIG := (bigm (inT1 (List.mem_of_getElem? (i := 26) rfl)) rfl)
theorem ko_code : Cond.code objectInit ⟨#[0xb1]⟩ 1 none ∈ BIG := (bigm (inT1 (List.mem_of_getElem? (i := 27) rfl)) rfl)
theorem km_min_s : Cond.static Lib.Math.min.name ∈ BIG := (bigm (inT3 (List.mem_of_getElem? (i := 6) rfl)) rfl)
theorem km_min_c : Cond.code Lib.Math.min.name Lib.Math.min.code 2 (some .int) ∈ BIG := (bigm (inT3 (List.mem_of_getElem? (i := 7) rfl)) rfl)
theorem km_max_s : Cond.static Lib.Math.max.name ∈ BIG := (bigm (inT3 (List.mem_of_getElem? (i := 3) rfl)) rfl)
theorem km_max_c : Cond.code Lib.Math.max.name Lib.Math.max.code 2 (some .int) ∈ BIG := (bigm (inT3 (List.mem_of_getElem? (i := 4) rfl)) rfl)
theorem km_ini : Cond.initialized "java/lang/Math" ∈ BIG := (bigm (inT1 (List.mem_of_getElem? (i := 16) rfl)) rfl)
theorem rcv_X8 {X : XT} {t : TS} : Rcv X t (X.1 0) RX8 := ⟨0, 8, _, _, rfl, rfl, rfl⟩
theorem rcv_X7 {X : XT} {t : TS} : Rcv X t (X.1 1) RX7 := ⟨1, 7, _, _, rfl, rfl, rfl⟩
theorem rcv_X4 {X : XT} {t : TS} : Rcv X t (X.1 2) RX4 := ⟨2, 4, _, _, rfl, rfl, rfl⟩
theorem rcv_X3 {X : XT} {t : TS} : Rcv X t (X.1 3) RX3 := ⟨3, 3, _, _, rfl, rfl, rfl⟩
theorem rcv_X6 {X : XT} {t : TS} : Rcv X t (X.1 4) RX6 := ⟨4, 6, _, _, rfl, rfl, rfl⟩
theorem rcv_X0 {X : XT} {t : TS} : Rcv X t (X.1 5) RX0 := ⟨5, 0, _, _, rfl, rfl, rfl⟩
theorem rcv_X2 {X : XT} {t : TS} : Rcv X t (X.1 6) RX2 := ⟨6, 2, _, _, rfl, rfl, rfl⟩
theorem rcv_X9 {X : XT} {t : TS} : Rcv X t (X.1 7) RX9 := ⟨7, 9, _, _, rfl, rfl, rfl⟩
theorem rcv_X1 {X : XT} {cs : CS} {u : MS × (Nat → Int64)} {a : Nat} (h : a ∈ cl cs ∧ ck cs a = 0) : Rcv X (cs, u) a RX1 := by
  obtain ⟨k0, h0⟩ := va_pl_get (X := wF X (cs, u)) (f := pf cs) h.1
  rw [pf_0 h.2] at h0
  exact ⟨k0, 1, _, _, h0, rfl, rfl⟩
theorem rcv_X5 {X : XT} {cs : CS} {u : MS × (Nat → Int64)} {a : Nat} (h : a ∈ cl cs ∧ ck cs a = 1) : Rcv X (cs, u) a RX5 := by
  obtain ⟨k0, h0⟩ := va_pl_get (X := wF X (cs, u)) (f := pf cs) h.1
  rw [pf_1 h.2] at h0
  exact ⟨k0, 5, _, _, h0, rfl, rfl⟩

def R_law : String := "BreakersYardLaw"
def lw_P (b : Addr) (xs : List Int32) (args : Array Value) (s : State) : Prop := args = #[.ref b] ∧ s.IntsAt b xs ∧ xs.length ≤ 3072 ∧ (Jvm.Cond.and given_1 narrow_1).before args s = true
def lw_Q (_ : Array Value) (s : State) (o : Outcome) (t : State) : Prop := o = .returned (some (.int 1)) ∧ Framed s o t [] 601024 7293034
def lw_Z (below : List Frame) (a : Array Value) (s : State) : State → Prop := fun t => ∃ o, t.status = .running ∧ Ended t below o ∧ lw_Q a s o t
/-- the law's own end, with 1 on the stack, nothing written that was there before, its room as the claim has it -/
theorem lw_ret {p : Program} {l : Launch} {e : Env} {s : State} {m : MethodId} {below : List Frame} {meth : Method} {c : Code} {b : Nat} (hx : p.tables.exec = Jvm.exec) (hb : c.code = code) (hr : meth.sig.returnType = ret) (hlocks : meth.locks = false) {pc : Nat} {H : Heap} {ls : Array Slot} (hdg : decode code pc = .ok (.ireturn, 1)) : W p l e room_1 s m #[Value.ref b] below meth c H [] 601024 7293034 (lw_Z below #[Value.ref b] s) (F0 m pc ls [.int 1]) := by
  intro T hT X
  obtain ⟨fs, hret, hrun, hended, hW, hframe⟩ := X.leave (v := some (.int 1)) (hlocks := hlocks) (fun h => by rw [hr] at h; cases h)
  have hmeth' : T.vm.method? m = some meth := X.method'
  refine ⟨T.setFrames fs, ?_, .returned (some (.int 1)), hrun, hended, rfl, ⟨_, rfl⟩, hW, hframe⟩
  jvm_step X.here [X.here.top, hx, hb, hdg, hmeth', hr, ret, narrow_b1]
  (try refine ⟨rfl, ?_⟩); (try refine ⟨rfl, ?_⟩)
  first | (intro acts; rw [hret _ acts rfl rfl rfl]) | rw [hret _ _ rfl rfl rfl]
  exact Steps.refl _
/-- what holds at the law's entry: the machine, the code, the tables' words (any of lw_tbl by 'hts w (by decide +kernel)'), the script of L ints xs at the cell b, what the Statement gives of the start (any of its parts by flat_of_before) -/
def lw_At (p : Program) (s : State) (m : MethodId) (meth : Method) (c : Code) (b L : Nat) (xs : Nat → Int32) : Prop :=
  p.tables.exec = Jvm.exec ∧ c.code = code ∧ meth.sig.returnType = ret ∧ c.maxLocals = 7 ∧ s.vm.findClass R_law = some m.cls ∧ (∀ w ∈ lw_tbl, w.before #[Value.ref b] s = true) ∧ va_X b L xs s s.heap ∧ b < s.heap.size ∧ meth.locks = false ∧ (Jvm.Cond.and given_1 narrow_1).before #[Value.ref b] s = true
/-! ===== the law's loop, over a relation R of the two states ===== -/
def cx (cd : String → Int32) (x : Int32 ⊕ String) : Int32 := match x with
  | .inl _ => 0
  | .inr E => cd E
/-- a call of the class that ended in r and cs', the reference's in rb and ms' -/
def Agr (cd : String → Int32) (ex : List String) (R : CS → MS → Prop) (rb : Int32) (ms' : MS) (r : Int32 ⊕ String) (cs' : CS) : Prop := mi ms' 0 = cx cd r ∧ (∀ v, r = .inl v → v = rb) ∧ (∀ E, r = .inr E → E ∈ ex) ∧ R cs' ms'
theorem lpost_out {V : Int32 → Int64} {cd : String → Int32} {ex : List String} {R : CS → MS → Prop} {rb : Int32} {ms' ms : MS} {G : Int32 ⊕ String → TS → Prop} {k : Int32} {u : TS} (h : LPost V cd G k u) (hcd : ∀ E, E ∈ ex → cd E ≠ 0) (hG : ∀ x t, G x t → Agr cd ex R rb ms' x t.1 ∧ t.2.1 = ms) : ∃ (cs' : CS) (o' : Nat → Int64), u = (cs', ms, o') ∧ mi ms' 0 = k ∧ (k = 0 → o' 0 = V rb) ∧ R cs' ms' := by
  rcases h with ⟨r, ⟨cs', ms1, o1⟩, rfl, hg, rfl⟩ | ⟨E, ⟨cs', ms1, o1⟩, rfl, hg, rfl⟩
  · obtain ⟨⟨h1, h2, h3, h4⟩, h5⟩ := hG _ _ hg
    obtain rfl : ms1 = ms := h5
    exact ⟨cs', _, rfl, h1, fun _ => by rw [← h2 r rfl]; exact if_pos rfl, h4⟩
  · obtain ⟨⟨h1, h2, h3, h4⟩, h5⟩ := hG _ _ hg
    obtain rfl : ms1 = ms := h5
    exact ⟨cs', o1, rfl, h1, fun h0 => absurd h0 (hcd E (h3 E rfl)), h4⟩
theorem lcmp_same {x y : Int64} (h : x = y) : lg_cmp x y = 0 := by
  subst h
  unfold lg_cmp
  rw [if_neg (fun q => absurd q (Int64.lt_irrefl)), if_pos rfl]
theorem sc_in {n L : Nat} (k : Nat) (hk : k ≤ 5) (hn : n + 6 ≤ L) (hL : L ≤ 3072) : vp_in (nI n + nI k) L := by
  rw [nI_add]
  exact vp_in_nI (by omega) (by omega)
theorem sc_end {n L : Nat} (hL : L ≤ 3072) (hn : n ≤ L) (h6 : n % 6 = 0) (h : ¬ n + 6 ≤ L) : nI L - 6 < nI n := by
  by_cases q : 6 ≤ L
  · obtain ⟨z, rfl⟩ : ∃ z, L = z + 6 := ⟨L - 6, by omega⟩
    rw [show (6 : Int32) = nI 6 from rfl, ← nI_add, Int32.add_sub_cancel]
    exact nI_lt (by omega) (by omega)
  · obtain rfl : n = 0 := by omega
    rcases (show L = 0 ∨ L = 1 ∨ L = 2 ∨ L = 3 ∨ L = 4 ∨ L = 5 by omega) with rfl | rfl | rfl | rfl | rfl | rfl <;> decide
theorem sc_go {n L : Nat} (hL : L ≤ 3072) (h : n + 6 ≤ L) : ¬ nI L - 6 < nI n := by
  obtain ⟨z, rfl⟩ : ∃ z, L = z + 6 := ⟨L - 6, by omega⟩
  rw [show (6 : Int32) = nI 6 from rfl, ← nI_add, Int32.add_sub_cancel]
  exact nI_nlt (by omega) (by omega)
def LLs (X : XT) (b n : Nat) : List (Nat × Value) := [(0, .ref b), (1, .ref (X.1 0)), (2, .ref (X.1 7)), (3, .ref (X.1 72)), (4, .int (nI n))]
/-- what holds in the law at every call -/
def LA (X : XT) (B : Nat) (p : Program) (s : State) (m : MethodId) (meth : Method) (c : Code) (b L : Nat) (xs : Nat → Int32) : Prop := Ev X B p s m #[Value.ref b] meth c RL cL_law 7 ret ∧ va_X b L xs s s.heap ∧ b < s.heap.size ∧ B = s.heap.size ∧ L ≤ 3072
theorem kc_L_113 : Cond.constantLong RL 113 (4294967295) ∈ BIG := (bigm (inT6 (List.mem_of_getElem? (i := 198) rfl)) rfl)
def H_sheet (R : CS → MS → Prop) : Prop := ∀ (cs : CS) (ms : MS) (v1 : Int32), R cs ms → ∃ (rb : Int32) (ms' : MS), f_X9_sheet ms v1 = some (rb, ms') ∧ ∃ (r : Int32 ⊕ String) (cs' : CS), f_X8_sheet cs v1 = some (r, cs') ∧ Agr (cd2 "java/lang/IllegalArgumentException") ["java/lang/IllegalArgumentException", "java/lang/IllegalStateException"] R rb ms' r cs'
def H_row (R : CS → MS → Prop) : Prop := ∀ (cs : CS) (ms : MS) (v1 : Int32) (v2 : Int32) (v3 : Int32), R cs ms → ∃ (rb : Int32) (ms' : MS), f_X9_row ms v1 v2 v3 = some (rb, ms') ∧ ∃ (r : Int32 ⊕ String) (cs' : CS), f_X8_row cs v1 v2 v3 = some (r, cs') ∧ Agr cd1 ["java/lang/IndexOutOfBoundsException"] R rb ms' r cs'
def H_put (R : CS → MS → Prop) : Prop := ∀ (cs : CS) (ms : MS) (v1 : Int32) (v2 : Int32) (v3 : Int32) (v4 : Int64), R cs ms → ∃ (rb : Int32) (ms' : MS), f_X9_put ms v1 v2 v3 v4 = some (rb, ms') ∧ ∃ (r : Int32 ⊕ String) (cs' : CS), f_X8_put cs v1 v2 v3 v4 = some (r, cs') ∧ Agr cd1 ["java/lang/IndexOutOfBoundsException"] R rb ms' r cs'
def H_tear (R : CS → MS → Prop) : Prop := ∀ (cs : CS) (ms : MS) (v1 : Int32) (v2 : Int32), R cs ms → ∃ (rb : Int32) (ms' : MS), f_X9_tear ms v1 v2 = some (rb, ms') ∧ ∃ (r : Int32 ⊕ String) (cs' : CS), f_X8_tear cs v1 v2 = some (r, cs') ∧ Agr cd1 ["java/lang/IndexOutOfBoundsException"] R rb ms' r cs'
def H_feed (R : CS → MS → Prop) : Prop := ∀ (cs : CS) (ms : MS) (v1 : Int32) (v2 : Int32) (v3 : Int32) (v4 : Int32) (v5 : Int32), R cs ms → ∃ (r : Int32) (cs' : CS) (ms' : MS), f_X8_feed cs v1 v2 v3 v4 v5 = some (r, cs') ∧ f_X9_feed ms v1 v2 v3 v4 v5 = some (r, ms') ∧ R cs' ms'
def H_fit (R : CS → MS → Prop) : Prop := ∀ (cs : CS) (ms : MS) (v1 : Int32), R cs ms → ∃ (rb : Int32) (ms' : MS), f_X9_fit ms v1 = some (rb, ms') ∧ ∃ (r : Int32 ⊕ String) (cs' : CS), f_X8_fit cs v1 = some (r, cs') ∧ Agr cd1 ["java/lang/IllegalArgumentException"] R rb ms' r cs'
def H_says (R : CS → MS → Prop) : Prop := ∀ (cs : CS) (ms : MS) (v1 : Int32) (v2 : Int32) (v3 : Int32) (v4 : Int32), R cs ms → ∃ (rb : Int32) (ms' : MS), f_X9_says ms v1 v2 v3 v4 = some (rb, ms') ∧ ∃ (r : Int32 ⊕ String) (cs' : CS), f_X8_says cs v1 v2 v3 v4 = some (r, cs') ∧ Agr cd1 ["java/lang/IndexOutOfBoundsException"] R rb ms' r cs'
def H_part (R : CS → MS → Prop) : Prop := ∀ (cs : CS) (ms : MS) (v1 : Int32) (v2 : Int32) (v3 : Int32), R cs ms → ∃ (rb : Int32) (ms' : MS), f_X9_part ms v1 v2 v3 = some (rb, ms') ∧ ∃ (r : Int32 ⊕ String) (cs' : CS), f_X8_part cs v1 v2 v3 = some (r, cs') ∧ Agr (cd2 "java/lang/IllegalArgumentException") ["java/lang/IllegalArgumentException", "java/lang/IndexOutOfBoundsException"] R rb ms' r cs'
def H_told (R : CS → MS → Prop) : Prop := ∀ (cs : CS) (ms : MS) (v1 : Int32) (v2 : Int32) (v3 : Int32), R cs ms → ∃ (rb : Int32) (ms' : MS), f_X9_told ms v1 v2 v3 = some (rb, ms') ∧ ∃ (r : Int32 ⊕ String) (cs' : CS), f_X8_told cs v1 v2 v3 = some (r, cs') ∧ Agr (cd2 "java/util/NoSuchElementException") ["java/util/NoSuchElementException", "java/lang/IllegalArgumentException"] R rb ms' r cs'
def H_car (R : CS → MS → Prop) : Prop := ∀ (cs : CS) (ms : MS) (v1 : Int32) (v2 : Int32) (v3 : Int32) (v4 : Int32), R cs ms → ∃ (rb : Int32) (ms' : MS), f_X9_car ms v1 v2 v3 v4 = some (rb, ms') ∧ ∃ Z, f_X8_car cs v1 v2 v3 v4 = some Z ∧ (∀ r S9, Z = (.inl r, S9) → Agr cd1 ["java/lang/IllegalArgumentException"] R rb ms' r S9) ∧ ∀ (x0 x1 x2 x3 x4 x5 : Int32) (S1 : CS), Z = (.inr (x0, x1, x2, x3, x4, x5), S1) → ∀ q, q ∉ cl S1 → ∃ r S9, f_X8_car_109 (cnU S1 q 0) x0 x1 x2 x3 x4 x5 q = some (r, S9) ∧ Agr cd1 ["java/lang/IllegalArgumentException"] R rb ms' r S9
def H_about (R : CS → MS → Prop) : Prop := ∀ (cs : CS) (ms : MS) (v1 : Int32) (v2 : Int32), R cs ms → ∃ (rb : Int32) (ms' : MS), f_X9_about ms v1 v2 = some (rb, ms') ∧ ∃ (r : Int32 ⊕ String) (cs' : CS), f_X8_about cs v1 v2 = some (r, cs') ∧ Agr (cd2 "java/util/NoSuchElementException") ["java/util/NoSuchElementException", "java/lang/IllegalArgumentException"] R rb ms' r cs'
def H_drain (R : CS → MS → Prop) : Prop := ∀ (cs : CS) (ms : MS) (v1 : Int32), R cs ms → ∃ (rb : Int32) (ms' : MS), f_X9_drain ms v1 = some (rb, ms') ∧ ∃ (r : Int32 ⊕ String) (cs' : CS), f_X8_drain cs v1 = some (r, cs') ∧ Agr cd1 ["java/util/NoSuchElementException"] R rb ms' r cs'
def H_papers (R : CS → MS → Prop) : Prop := ∀ (cs : CS) (ms : MS) (v1 : Int32), R cs ms → ∃ (rb : Int32) (ms' : MS), f_X9_papers ms v1 = some (rb, ms') ∧ ∃ (r : Int32 ⊕ String) (cs' : CS), f_X8_papers cs v1 = some (r, cs') ∧ Agr cd1 ["java/util/NoSuchElementException"] R rb ms' r cs'
def H_hinders (R : CS → MS → Prop) : Prop := ∀ (cs : CS) (ms : MS) (v1 : Int32) (v2 : Int32), R cs ms → ∃ (rb : Int32) (ms' : MS), f_X9_hinders ms v1 v2 = some (rb, ms') ∧ ∃ (r : Int32 ⊕ String) (cs' : CS), f_X8_hinders cs v1 v2 = some (r, cs') ∧ Agr cd1 ["java/util/NoSuchElementException"] R rb ms' r cs'
def H_take (R : CS → MS → Prop) : Prop := ∀ (cs : CS) (ms : MS) (v1 : Int32) (v2 : Int32), R cs ms → ∃ (rb : Int32) (ms' : MS), f_X9_take ms v1 v2 = some (rb, ms') ∧ ∃ Z, f_X8_take cs v1 v2 = some Z ∧ (∀ r S9, Z = (.inl r, S9) → Agr cd1 ["java/util/NoSuchElementException"] R rb ms' r S9) ∧ ∀ (x0 x1 : Int32) (x2 : Nat) (S1 : CS), Z = (.inr (x0, x1, x2), S1) → ∀ q, q ∉ cl S1 → ∃ r S9, f_X8_take_28 (cnU S1 q 1) x0 x1 x2 q = some (r, S9) ∧ Agr cd1 ["java/util/NoSuchElementException"] R rb ms' r S9
def H_press (R : CS → MS → Prop) : Prop := ∀ (cs : CS) (ms : MS) (v1 : Int32), R cs ms → ∃ (rb : Int32) (ms' : MS), f_X9_press ms v1 = some (rb, ms') ∧ ∃ (r : Int32 ⊕ String) (cs' : CS), f_X8_press cs v1 = some (r, cs') ∧ Agr cd1 ["java/util/NoSuchElementException"] R rb ms' r cs'
def H_day (R : CS → MS → Prop) : Prop := ∀ (cs : CS) (ms : MS) (v1 : Int32), R cs ms → ∃ (rb : Int32) (ms' : MS), f_X9_day ms v1 = some (rb, ms') ∧ ∃ (r : Int32 ⊕ String) (cs' : CS), f_X8_day cs v1 = some (r, cs') ∧ Agr (cd2 "java/lang/IllegalArgumentException") ["java/lang/IllegalArgumentException", "java/lang/IllegalStateException"] R rb ms' r cs'
def H_late (R : CS → MS → Prop) : Prop := ∀ (cs : CS) (ms : MS) (v1 : Int32) (v2 : Int32), R cs ms → ∃ (rb : Int32) (ms' : MS), f_X9_late ms v1 v2 = some (rb, ms') ∧ ∃ (r : Int32 ⊕ String) (cs' : CS), f_X8_late cs v1 v2 = some (r, cs') ∧ Agr cd1 ["java/lang/IllegalArgumentException"] R rb ms' r cs'
def H_item (R : CS → MS → Prop) : Prop := ∀ (cs : CS) (ms : MS) (v1 : Int32) (v2 : Int32), R cs ms → ∃ (rb : Int32) (ms' : MS), f_X9_item ms v1 v2 = some (rb, ms') ∧ ∃ (r : Int32 ⊕ String) (cs' : CS), f_X8_item cs v1 v2 = some (r, cs') ∧ Agr (cd2 "java/util/NoSuchElementException") ["java/util/NoSuchElementException", "java/lang/IllegalArgumentException"] R rb ms' r cs'
def H_find (R : CS → MS → Prop) : Prop := ∀ (cs : CS) (ms : MS) (v1 : Int32) (v2 : Int32) (v3 : Int32) (v4 : Int32), R cs ms → ∃ (rb : Int32) (ms' : MS), f_X9_find ms v1 v2 v3 v4 = some (rb, ms') ∧ ∃ (r : Int32 ⊕ String) (cs' : CS), f_X8_find cs v1 v2 v3 v4 = some (r, cs') ∧ Agr cd1 ["java/lang/IllegalArgumentException"] R rb ms' r cs'
def H_found (R : CS → MS → Prop) : Prop := ∀ (cs : CS) (ms : MS) (v1 : Int32), R cs ms → ∃ (r : Int32) (ms' : MS), f_X8_found cs v1 = some r ∧ f_X9_found ms v1 = some (r, ms') ∧ R cs ms'
def H_sell (R : CS → MS → Prop) : Prop := ∀ (cs : CS) (ms : MS) (v1 : Int32) (v2 : Int32), R cs ms → ∃ (rb : Int32) (ms' : MS), f_X9_sell ms v1 v2 = some (rb, ms') ∧ ∃ (r : Int32 ⊕ String) (cs' : CS), f_X8_sell cs v1 v2 = some (r, cs') ∧ Agr (cd2 "java/util/NoSuchElementException") ["java/util/NoSuchElementException", "java/lang/IllegalArgumentException"] R rb ms' r cs'
def H_back (R : CS → MS → Prop) : Prop := ∀ (cs : CS) (ms : MS) (v1 : Int32) (v2 : Int32), R cs ms → ∃ (rb : Int32) (ms' : MS), f_X9_back ms v1 v2 = some (rb, ms') ∧ ∃ (r : Int32 ⊕ String) (cs' : CS), f_X8_back cs v1 v2 = some (r, cs') ∧ Agr (cd2 "java/util/NoSuchElementException") ["java/util/NoSuchElementException", "java/lang/IllegalArgumentException"] R rb ms' r cs'
def H_best (R : CS → MS → Prop) : Prop := ∀ (cs : CS) (ms : MS) (v1 : Int32) (v2 : Int32), R cs ms → ∃ (rb : Int32) (ms' : MS), f_X9_best ms v1 v2 = some (rb, ms') ∧ ∃ (r : Int32 ⊕ String) (cs' : CS), f_X8_best cs v1 v2 = some (r, cs') ∧ Agr (cd2 "java/util/NoSuchElementException") ["java/util/NoSuchElementException", "java/lang/IllegalArgumentException"] R rb ms' r cs'
def H_worth (R : CS → MS → Prop) : Prop := ∀ (cs : CS) (ms : MS) (v1 : Int32) (v2 : Int32), R cs ms → ∃ (rb : Int32) (ms' : MS), f_X9_worth ms v1 v2 = some (rb, ms') ∧ ∃ (r : Int32 ⊕ String) (cs' : CS), f_X8_worth cs v1 v2 = some (r, cs') ∧ Agr (cd2 "java/util/NoSuchElementException") ["java/util/NoSuchElementException", "java/lang/IllegalArgumentException"] R rb ms' r cs'
def H_grams (R : CS → MS → Prop) : Prop := ∀ (cs : CS) (ms : MS) (v1 : Int32) (v2 : Int32), R cs ms → ∃ (rb : Int32) (ms' : MS), f_X9_grams ms v1 v2 = some (rb, ms') ∧ ∃ (r : Int32 ⊕ String) (cs' : CS), f_X8_grams cs v1 v2 = some (r, cs') ∧ Agr cd1 ["java/lang/IllegalArgumentException"] R rb ms' r cs'
def H_count (R : CS → MS → Prop) : Prop := ∀ (cs : CS) (ms : MS) (v1 : Int32), R cs ms → ∃ (r : Int32) (ms' : MS), f_X8_count cs v1 = some r ∧ f_X9_count ms v1 = some (r, ms') ∧ R cs ms'
def H_till (R : CS → MS → Prop) : Prop := ∀ (cs : CS) (ms : MS), R cs ms → ∃ (r : Int64) (ms' : MS), f_X8_till cs = some r ∧ f_X9_till ms = some (r, ms') ∧ R cs ms'
def H_undo (R : CS → MS → Prop) : Prop := ∀ (cs : CS) (ms : MS), R cs ms → ∃ (r : Int32) (cs' : CS) (ms' : MS), f_X8_undo cs = some (r, cs') ∧ f_X9_undo ms = some (r, ms') ∧ R cs' ms'
def SIM (R : CS → MS → Prop) : Prop := H_sheet R ∧ H_row R ∧ H_put R ∧ H_tear R ∧ H_feed R ∧ H_fit R ∧ H_says R ∧ H_part R ∧ H_told R ∧ H_car R ∧ H_about R ∧ H_drain R ∧ H_papers R ∧ H_hinders R ∧ H_take R ∧ H_press R ∧ H_day R ∧ H_late R ∧ H_item R ∧ H_find R ∧ H_found R ∧ H_sell R ∧ H_back R ∧ H_best R ∧ H_worth R ∧ H_grams R ∧ H_count R ∧ H_till R ∧ H_undo R
section LAWLOOP
variable {p : Program} {l : Launch} {e : Env} {s : State} {m : MethodId} {below : List Frame} {meth : Method} {c : Code} {H : Heap} {locs : List Loc} {cells slots : Nat} {Q : State → Prop} {X : XT} {B : Nat} {ls : Array Slot} {b L : Nat} {xs : Nat → Int32} {cs : CS} {ms : MS} {o : Nat → Int64}
theorem lk_L_104 : LkV RL 104 yX9_sheet cX9_sheet 2 (some .int) 1 := ⟨(bigm (inT5 (List.mem_of_getElem? (i := 203) rfl)) rfl), km_X9_sheet_inst, km_X9_sheet_sel, ki_X9, km_X9_sheet_code, by decide +kernel, by decide +kernel, by decide +kernel⟩
theorem lk_L_105 : LkV RL 105 yX9_thrown cX9_thrown 1 (some .int) 0 := ⟨(bigm (inT5 (List.mem_of_getElem? (i := 6) rfl)) rfl), km_X9_thrown_inst, km_X9_thrown_sel, ki_X9, km_X9_thrown_code, by decide +kernel, by decide +kernel, by decide +kernel⟩
set_option maxHeartbeats 4000000 in
set_option maxRecDepth 100000 in
theorem lc_sheet (hl0 : l.stackTraces = false) (A : LA X B p s m meth c b L xs) {R : CS → MS → Prop} (hS : H_sheet R) {n : Nat} (hn : n + 6 ≤ L) (hR : R cs ms) (hc : cells + 3 ≤ 601024) (hsl : slots + 18 ≤ 7293034) (hW : Ws X B s.heap H locs (cs, ms, o)) (hl : lv_has ls 7 (LLs X b n)) (hk : ∀ (cs' : CS) (ms' : MS) (o' : Nat → Int64) (H' : Heap) (locs' : List Loc) (ls' : Array Slot), R cs' ms' → Ws X B s.heap H' locs' (cs', ms', o') → lv_has ls' 7 (LLs X b n) → W p l e room_1 s m #[Value.ref b] below meth c H' locs' (cells + 3) (slots + 18) Q (F0 m 2053 ls' [])) : W p l e room_1 s m #[Value.ref b] below meth c H locs cells slots Q (F0 m 172 ls []) := by
  obtain ⟨E, hX, hbl, hB, hL⟩ := A
  obtain ⟨hx, hb, hml, hown, hts, -⟩ := id E
  have hbA : ¬ Ab B b := fun q => absurd (show B ≤ b from q) (by omega)
  replace hl : lv_has ls 7 [(0, .ref b), (1, .ref (X.1 0)), (2, .ref (X.1 7)), (3, .ref (X.1 72)), (4, .int (nI n))] := hl
  obtain ⟨rb, ms9, hf9, r8, cs9, hf8, hA8⟩ := hS cs ms (xs (nI n + (1 : Int32)).toNatClampNeg) hR
  have hcd9 : ∀ E, E ∈ (["java/lang/IllegalArgumentException", "java/lang/IllegalStateException"] : List String) → (cd2 "java/lang/IllegalArgumentException") E ≠ 0 := by simp [cd1, cd2]
  refine lv_aload_n hx hb dL_law_172 rfl (lv_at hl 1 rfl) ?_
  refine lv_aload_n hx hb dL_law_173 rfl (lv_at hl 0 rfl) ?_
  refine lv_iload hx hb dL_law_174 (lv_at hl 4 rfl) ?_
  refine lv_iconst (v := (1 : Int32)) hx hb dL_law_176 (by decide) ?_
  refine lv_iadd hx hb dL_law_177 ?_
  refine va_sld hx hb hX hbl hbA hW.2.2 (sc_in 1 (by decide) hn hL) dL_law_178 ?_
  refine lv_aload_n hx hb dL_law_179 rfl (lv_at hl 3 rfl) ?_
  refine callW (As := [.ref _, .int _, .ref _]) (rest := []) E hW (c_L_sheet l (G := (fun (x : Int32 ⊕ String) (u : TS) => r8 = x ∧ u = (cs9, ms, o))) (c_X8_sheet l hl0 hf8) (fun E9 t9 h9 => by
    have h8 := (((fun x t h => by obtain ⟨rfl, rfl⟩ := h; exact ⟨hA8, rfl⟩) : ∀ (x : Int32 ⊕ String) (t : TS), (fun (x : Int32 ⊕ String) (u : TS) => r8 = x ∧ u = (cs9, ms, o)) x t → Agr (cd2 "java/lang/IllegalArgumentException") ["java/lang/IllegalArgumentException", "java/lang/IllegalStateException"] R rb ms9 x t.1 ∧ t.2.1 = ms) _ _ h9).1.2.2.1 E9 rfl
    simpa using h8)) lw_L_99 (Nat.le_of_ble_eq_true rfl) (Nat.le_of_ble_eq_true rfl) (by show _ ≤ 601024; omega) (by show _ ≤ 7293034; omega) hl.1 (Nat.le_of_ble_eq_true rfl) dL_law_180 (fun k9 u9 hP H locs hW => ?_)
  obtain ⟨csN, oN, rfl, hkk, ho, hRN⟩ := lpost_out hP hcd9 (fun x t h => by obtain ⟨rfl, rfl⟩ := h; exact ⟨hA8, rfl⟩)
  refine lv_istore (lv' := [_, _, _, _, _, _]) hx hb dL_law_183 hl (by decide) rfl (fun ls hl => ?_)
  refine lv_aload_n hx hb dL_law_185 rfl (lv_at hl 3 rfl) ?_
  refine lv_aload_n hx hb dL_law_186 rfl (lv_at hl 1 rfl) ?_
  refine lv_iload hx hb dL_law_187 (lv_at hl 5 rfl) ?_
  refine lv_iconst (v := (1 : Int32)) hx hb dL_law_189 (by decide) ?_
  refine lv_iadd hx hb dL_law_190 ?_
  refine va_sld hx hb hX hbl hbA hW.2.2 (sc_in 1 (by decide) hn hL) dL_law_191 ?_
  refine callVI (As := [.int _]) (rest := []) E hW (c_X9_sheet l hf9) lk_L_104 rcv_X9 (Nat.le_of_ble_eq_true rfl) (Nat.le_of_ble_eq_true rfl) (by show _ ≤ 601024; omega) (by show _ ≤ 7293034; omega) hl.1 (Nat.le_of_ble_eq_true rfl) dL_law_192 (fun H locs hW => ?_)
  refine lv_istore (lv' := [_, _, _, _, _, _, _]) hx hb dL_law_195 hl (by decide) rfl (fun ls hl => ?_)
  refine lv_aload_n hx hb dL_law_197 rfl (lv_at hl 4 rfl) ?_
  refine callVI (As := []) (rest := []) E hW (c_X9_thrown l rfl) lk_L_105 rcv_X9 (Nat.le_of_ble_eq_true rfl) (Nat.le_of_ble_eq_true rfl) (by show _ ≤ 601024; omega) (by show _ ≤ 7293034; omega) hl.1 (Nat.le_of_ble_eq_true rfl) dL_law_198 (fun H locs hW => ?_)
  refine lv_iload hx hb dL_law_201 (lv_at hl 1 rfl) ?_
  refine lv_icmp_eq (tgt := 208) hx hb dL_law_203 (by decide) (fun h9 => ?_) (fun h9 => absurd (by first | exact hkk | exact hkk.symm) h9)
  refine lv_iload hx hb dL_law_208 (lv_at hl 1 rfl) ?_
  refine lv_if_ne (tgt := 225) hx hb dL_law_210 (by decide) (fun h9 => ?_) (fun h9 => ?_)
  · refine lv_goto (tgt := 2053) hx hb dL_law_225 (by decide) ?_
    refine W.widen (k := cells + 3) (n := slots + 18) (by omega) (by omega) ?_
    exact hk _ _ _ _ _ _ hRN hW (lv_sub hl [2, 3, 4, 5, 6] rfl)
  · refine lv_aload_n hx hb dL_law_213 rfl (lv_at hl 5 rfl) ?_
    refine lv_iconst (v := (0 : Int32)) hx hb dL_law_214 (by decide) ?_
    refine ra_72 E hW (vp_in_nI (n := 0) (Nat.le_of_ble_eq_true rfl) (Nat.le_of_ble_eq_true rfl)) dL_law_215 ?_
    refine lv_iload hx hb dL_law_216 (lv_at hl 0 rfl) ?_
    refine lv_i2l hx hb dL_law_218 rfl ?_
    refine W.lcmp hx hb dL_law_219 ?_
    refine lv_if_eq (tgt := 225) hx hb dL_law_220 (by decide) (fun h8 => ?_) (fun h8 => absurd (lcmp_same (ho h9)) h8)
    refine lv_goto (tgt := 2053) hx hb dL_law_225 (by decide) ?_
    refine W.widen (k := cells + 3) (n := slots + 18) (by omega) (by omega) ?_
    exact hk _ _ _ _ _ _ hRN hW (lv_sub hl [2, 3, 4, 5, 6] rfl)
theorem lk_L_112 : LkV RL 112 yX9_row cX9_row 6 (some .int) 3 := ⟨(bigm (inT5 (List.mem_of_getElem? (i := 211) rfl)) rfl), km_X9_row_inst, km_X9_row_sel, ki_X9, km_X9_row_code, by decide +kernel, by decide +kernel, by decide +kernel⟩
set_option maxHeartbeats 4000000 in
set_option maxRecDepth 100000 in
theorem lc_row (hl0 : l.stackTraces = false) (A : LA X B p s m meth c b L xs) {R : CS → MS → Prop} (hS : H_row R) {n : Nat} (hn : n + 6 ≤ L) (hR : R cs ms) (hc : cells + 3 ≤ 601024) (hsl : slots + 18 ≤ 7293034) (hW : Ws X B s.heap H locs (cs, ms, o)) (hl : lv_has ls 7 (LLs X b n)) (hk : ∀ (cs' : CS) (ms' : MS) (o' : Nat → Int64) (H' : Heap) (locs' : List Loc) (ls' : Array Slot), R cs' ms' → Ws X B s.heap H' locs' (cs', ms', o') → lv_has ls' 7 (LLs X b n) → W p l e room_1 s m #[Value.ref b] below meth c H' locs' (cells + 3) (slots + 18) Q (F0 m 2053 ls' [])) : W p l e room_1 s m #[Value.ref b] below meth c H locs cells slots Q (F0 m 228 ls []) := by
  obtain ⟨E, hX, hbl, hB, hL⟩ := A
  obtain ⟨hx, hb, hml, hown, hts, -⟩ := id E
  have hbA : ¬ Ab B b := fun q => absurd (show B ≤ b from q) (by omega)
  replace hl : lv_has ls 7 [(0, .ref b), (1, .ref (X.1 0)), (2, .ref (X.1 7)), (3, .ref (X.1 72)), (4, .int (nI n))] := hl
  obtain ⟨rb, ms9, hf9, r8, cs9, hf8, hA8⟩ := hS cs ms (xs (nI n + (1 : Int32)).toNatClampNeg) (xs (nI n + (2 : Int32)).toNatClampNeg) (xs (nI n + (3 : Int32)).toNatClampNeg) hR
  have hcd9 : ∀ E, E ∈ (["java/lang/IndexOutOfBoundsException"] : List String) → cd1 E ≠ 0 := by simp [cd1, cd2]
  refine lv_aload_n hx hb dL_law_228 rfl (lv_at hl 1 rfl) ?_
  refine lv_aload_n hx hb dL_law_229 rfl (lv_at hl 0 rfl) ?_
  refine lv_iload hx hb dL_law_230 (lv_at hl 4 rfl) ?_
  refine lv_iconst (v := (1 : Int32)) hx hb dL_law_232 (by decide) ?_
  refine lv_iadd hx hb dL_law_233 ?_
  refine va_sld hx hb hX hbl hbA hW.2.2 (sc_in 1 (by decide) hn hL) dL_law_234 ?_
  refine lv_aload_n hx hb dL_law_235 rfl (lv_at hl 0 rfl) ?_
  refine lv_iload hx hb dL_law_236 (lv_at hl 4 rfl) ?_
  refine lv_iconst (v := (2 : Int32)) hx hb dL_law_238 (by decide) ?_
  refine lv_iadd hx hb dL_law_239 ?_
  refine va_sld hx hb hX hbl hbA hW.2.2 (sc_in 2 (by decide) hn hL) dL_law_240 ?_
  refine lv_aload_n hx hb dL_law_241 rfl (lv_at hl 0 rfl) ?_
  refine lv_iload hx hb dL_law_242 (lv_at hl 4 rfl) ?_
  refine lv_iconst (v := (3 : Int32)) hx hb dL_law_244 (by decide) ?_
  refine lv_iadd hx hb dL_law_245 ?_
  refine va_sld hx hb hX hbl hbA hW.2.2 (sc_in 3 (by decide) hn hL) dL_law_246 ?_
  refine lv_aload_n hx hb dL_law_247 rfl (lv_at hl 3 rfl) ?_
  refine callW (As := [.ref _, .int _, .int _, .int _, .ref _]) (rest := []) E hW (c_L_row l (G := (fun (x : Int32 ⊕ String) (u : TS) => r8 = x ∧ u = (cs9, ms, o))) (c_X8_row l hl0 hf8) (fun E9 t9 h9 => by
    have h8 := (((fun x t h => by obtain ⟨rfl, rfl⟩ := h; exact ⟨hA8, rfl⟩) : ∀ (x : Int32 ⊕ String) (t : TS), (fun (x : Int32 ⊕ String) (u : TS) => r8 = x ∧ u = (cs9, ms, o)) x t → Agr cd1 ["java/lang/IndexOutOfBoundsException"] R rb ms9 x t.1 ∧ t.2.1 = ms) _ _ h9).1.2.2.1 E9 rfl
    simpa using h8)) lw_L_109 (Nat.le_of_ble_eq_true rfl) (Nat.le_of_ble_eq_true rfl) (by show _ ≤ 601024; omega) (by show _ ≤ 7293034; omega) hl.1 (Nat.le_of_ble_eq_true rfl) dL_law_248 (fun k9 u9 hP H locs hW => ?_)
  obtain ⟨csN, oN, rfl, hkk, ho, hRN⟩ := lpost_out hP hcd9 (fun x t h => by obtain ⟨rfl, rfl⟩ := h; exact ⟨hA8, rfl⟩)
  refine lv_istore (lv' := [_, _, _, _, _, _]) hx hb dL_law_251 hl (by decide) rfl (fun ls hl => ?_)
  refine lv_aload_n hx hb dL_law_253 rfl (lv_at hl 3 rfl) ?_
  refine lv_aload_n hx hb dL_law_254 rfl (lv_at hl 1 rfl) ?_
  refine lv_iload hx hb dL_law_255 (lv_at hl 5 rfl) ?_
  refine lv_iconst (v := (1 : Int32)) hx hb dL_law_257 (by decide) ?_
  refine lv_iadd hx hb dL_law_258 ?_
  refine va_sld hx hb hX hbl hbA hW.2.2 (sc_in 1 (by decide) hn hL) dL_law_259 ?_
  refine lv_aload_n hx hb dL_law_260 rfl (lv_at hl 1 rfl) ?_
  refine lv_iload hx hb dL_law_261 (lv_at hl 5 rfl) ?_
  refine lv_iconst (v := (2 : Int32)) hx hb dL_law_263 (by decide) ?_
  refine lv_iadd hx hb dL_law_264 ?_
  refine va_sld hx hb hX hbl hbA hW.2.2 (sc_in 2 (by decide) hn hL) dL_law_265 ?_
  refine lv_aload_n hx hb dL_law_266 rfl (lv_at hl 1 rfl) ?_
  refine lv_iload hx hb dL_law_267 (lv_at hl 5 rfl) ?_
  refine lv_iconst (v := (3 : Int32)) hx hb dL_law_269 (by decide) ?_
  refine lv_iadd hx hb dL_law_270 ?_
  refine va_sld hx hb hX hbl hbA hW.2.2 (sc_in 3 (by decide) hn hL) dL_law_271 ?_
  refine callVI (As := [.int _, .int _, .int _]) (rest := []) E hW (c_X9_row l hf9) lk_L_112 rcv_X9 (Nat.le_of_ble_eq_true rfl) (Nat.le_of_ble_eq_true rfl) (by show _ ≤ 601024; omega) (by show _ ≤ 7293034; omega) hl.1 (Nat.le_of_ble_eq_true rfl) dL_law_272 (fun H locs hW => ?_)
  refine lv_istore (lv' := [_, _, _, _, _, _, _]) hx hb dL_law_275 hl (by decide) rfl (fun ls hl => ?_)
  refine lv_aload_n hx hb dL_law_277 rfl (lv_at hl 4 rfl) ?_
  refine callVI (As := []) (rest := []) E hW (c_X9_thrown l rfl) lk_L_105 rcv_X9 (Nat.le_of_ble_eq_true rfl) (Nat.le_of_ble_eq_true rfl) (by show _ ≤ 601024; omega) (by show _ ≤ 7293034; omega) hl.1 (Nat.le_of_ble_eq_true rfl) dL_law_278 (fun H locs hW => ?_)
  refine lv_iload hx hb dL_law_281 (lv_at hl 1 rfl) ?_
  refine lv_icmp_eq (tgt := 288) hx hb dL_law_283 (by decide) (fun h9 => ?_) (fun h9 => absurd (by first | exact hkk | exact hkk.symm) h9)
  refine lv_iload hx hb dL_law_288 (lv_at hl 1 rfl) ?_
  refine lv_if_ne (tgt := 305) hx hb dL_law_290 (by decide) (fun h9 => ?_) (fun h9 => ?_)
  · refine lv_goto (tgt := 2053) hx hb dL_law_305 (by decide) ?_
    refine W.widen (k := cells + 3) (n := slots + 18) (by omega) (by omega) ?_
    exact hk _ _ _ _ _ _ hRN hW (lv_sub hl [2, 3, 4, 5, 6] rfl)
  · refine lv_aload_n hx hb dL_law_293 rfl (lv_at hl 5 rfl) ?_
    refine lv_iconst (v := (0 : Int32)) hx hb dL_law_294 (by decide) ?_
    refine ra_72 E hW (vp_in_nI (n := 0) (Nat.le_of_ble_eq_true rfl) (Nat.le_of_ble_eq_true rfl)) dL_law_295 ?_
    refine lv_iload hx hb dL_law_296 (lv_at hl 0 rfl) ?_
    refine lv_i2l hx hb dL_law_298 rfl ?_
    refine W.lcmp hx hb dL_law_299 ?_
    refine lv_if_eq (tgt := 305) hx hb dL_law_300 (by decide) (fun h8 => ?_) (fun h8 => absurd (lcmp_same (ho h9)) h8)
    refine lv_goto (tgt := 2053) hx hb dL_law_305 (by decide) ?_
    refine W.widen (k := cells + 3) (n := slots + 18) (by omega) (by omega) ?_
    exact hk _ _ _ _ _ _ hRN hW (lv_sub hl [2, 3, 4, 5, 6] rfl)
theorem lk_L_118 : LkV RL 118 yX9_put cX9_put 7 (some .int) 4 := ⟨(bigm (inT5 (List.mem_of_getElem? (i := 219) rfl)) rfl), km_X9_put_inst, km_X9_put_sel, ki_X9, km_X9_put_code, by decide +kernel, by decide +kernel, by decide +kernel⟩
set_option maxHeartbeats 4000000 in
set_option maxRecDepth 100000 in
theorem lc_put (hl0 : l.stackTraces = false) (A : LA X B p s m meth c b L xs) {R : CS → MS → Prop} (hS : H_put R) {n : Nat} (hn : n + 6 ≤ L) (hR : R cs ms) (hc : cells + 3 ≤ 601024) (hsl : slots + 18 ≤ 7293034) (hW : Ws X B s.heap H locs (cs, ms, o)) (hl : lv_has ls 7 (LLs X b n)) (hk : ∀ (cs' : CS) (ms' : MS) (o' : Nat → Int64) (H' : Heap) (locs' : List Loc) (ls' : Array Slot), R cs' ms' → Ws X B s.heap H' locs' (cs', ms', o') → lv_has ls' 7 (LLs X b n) → W p l e room_1 s m #[Value.ref b] below meth c H' locs' (cells + 3) (slots + 18) Q (F0 m 2053 ls' [])) : W p l e room_1 s m #[Value.ref b] below meth c H locs cells slots Q (F0 m 308 ls []) := by
  obtain ⟨E, hX, hbl, hB, hL⟩ := A
  obtain ⟨hx, hb, hml, hown, hts, -⟩ := id E
  have hbA : ¬ Ab B b := fun q => absurd (show B ≤ b from q) (by omega)
  replace hl : lv_has ls 7 [(0, .ref b), (1, .ref (X.1 0)), (2, .ref (X.1 7)), (3, .ref (X.1 72)), (4, .int (nI n))] := hl
  obtain ⟨rb, ms9, hf9, r8, cs9, hf8, hA8⟩ := hS cs ms (xs (nI n + (1 : Int32)).toNatClampNeg) (xs (nI n + (2 : Int32)).toNatClampNeg) (xs (nI n + (3 : Int32)).toNatClampNeg) (((xs (nI n + (4 : Int32)).toNatClampNeg).toInt64 <<< (((32 : Int32)).toInt64 &&& 63)) ||| ((xs (nI n + (5 : Int32)).toNatClampNeg).toInt64 &&& (4294967295 : Int64))) hR
  have hcd9 : ∀ E, E ∈ (["java/lang/IndexOutOfBoundsException"] : List String) → cd1 E ≠ 0 := by simp [cd1, cd2]
  refine lv_aload_n hx hb dL_law_308 rfl (lv_at hl 1 rfl) ?_
  refine lv_aload_n hx hb dL_law_309 rfl (lv_at hl 0 rfl) ?_
  refine lv_iload hx hb dL_law_310 (lv_at hl 4 rfl) ?_
  refine lv_iconst (v := (1 : Int32)) hx hb dL_law_312 (by decide) ?_
  refine lv_iadd hx hb dL_law_313 ?_
  refine va_sld hx hb hX hbl hbA hW.2.2 (sc_in 1 (by decide) hn hL) dL_law_314 ?_
  refine lv_aload_n hx hb dL_law_315 rfl (lv_at hl 0 rfl) ?_
  refine lv_iload hx hb dL_law_316 (lv_at hl 4 rfl) ?_
  refine lv_iconst (v := (2 : Int32)) hx hb dL_law_318 (by decide) ?_
  refine lv_iadd hx hb dL_law_319 ?_
  refine va_sld hx hb hX hbl hbA hW.2.2 (sc_in 2 (by decide) hn hL) dL_law_320 ?_
  refine lv_aload_n hx hb dL_law_321 rfl (lv_at hl 0 rfl) ?_
  refine lv_iload hx hb dL_law_322 (lv_at hl 4 rfl) ?_
  refine lv_iconst (v := (3 : Int32)) hx hb dL_law_324 (by decide) ?_
  refine lv_iadd hx hb dL_law_325 ?_
  refine va_sld hx hb hX hbl hbA hW.2.2 (sc_in 3 (by decide) hn hL) dL_law_326 ?_
  refine lv_aload_n hx hb dL_law_327 rfl (lv_at hl 0 rfl) ?_
  refine lv_iload hx hb dL_law_328 (lv_at hl 4 rfl) ?_
  refine lv_iconst (v := (4 : Int32)) hx hb dL_law_330 (by decide) ?_
  refine lv_iadd hx hb dL_law_331 ?_
  refine va_sld hx hb hX hbl hbA hW.2.2 (sc_in 4 (by decide) hn hL) dL_law_332 ?_
  refine lv_i2l hx hb dL_law_333 rfl ?_
  refine lv_bipush (v := (32 : Int32)) hx hb dL_law_334 (by decide) ?_
  refine lv_lshl hx hb dL_law_336 rfl ?_
  refine lv_aload_n hx hb dL_law_337 rfl (lv_at hl 0 rfl) ?_
  refine lv_iload hx hb dL_law_338 (lv_at hl 4 rfl) ?_
  refine lv_iconst (v := (5 : Int32)) hx hb dL_law_340 (by decide) ?_
  refine lv_iadd hx hb dL_law_341 ?_
  refine va_sld hx hb hX hbl hbA hW.2.2 (sc_in 5 (by decide) hn hL) dL_law_342 ?_
  refine lv_i2l hx hb dL_law_343 rfl ?_
  refine lv_ldc2 (own := RL) (v := (4294967295 : Int64)) hx hb hown (hts _ kc_L_113) dL_law_344 ?_
  refine lv_land hx hb dL_law_347 ?_
  refine lv_lor hx hb dL_law_348 ?_
  refine lv_aload_n hx hb dL_law_349 rfl (lv_at hl 3 rfl) ?_
  refine callW (As := [.ref _, .int _, .int _, .int _, .long _, .ref _]) (rest := []) E hW (c_L_put l (G := (fun (x : Int32 ⊕ String) (u : TS) => r8 = x ∧ u = (cs9, ms, o))) (c_X8_put l hl0 hf8) (fun E9 t9 h9 => by
    have h8 := (((fun x t h => by obtain ⟨rfl, rfl⟩ := h; exact ⟨hA8, rfl⟩) : ∀ (x : Int32 ⊕ String) (t : TS), (fun (x : Int32 ⊕ String) (u : TS) => r8 = x ∧ u = (cs9, ms, o)) x t → Agr cd1 ["java/lang/IndexOutOfBoundsException"] R rb ms9 x t.1 ∧ t.2.1 = ms) _ _ h9).1.2.2.1 E9 rfl
    simpa using h8)) lw_L_115 (Nat.le_of_ble_eq_true rfl) (Nat.le_of_ble_eq_true rfl) (by show _ ≤ 601024; omega) (by show _ ≤ 7293034; omega) hl.1 (Nat.le_of_ble_eq_true rfl) dL_law_350 (fun k9 u9 hP H locs hW => ?_)
  obtain ⟨csN, oN, rfl, hkk, ho, hRN⟩ := lpost_out hP hcd9 (fun x t h => by obtain ⟨rfl, rfl⟩ := h; exact ⟨hA8, rfl⟩)
  refine lv_istore (lv' := [_, _, _, _, _, _]) hx hb dL_law_353 hl (by decide) rfl (fun ls hl => ?_)
  refine lv_aload_n hx hb dL_law_355 rfl (lv_at hl 3 rfl) ?_
  refine lv_aload_n hx hb dL_law_356 rfl (lv_at hl 1 rfl) ?_
  refine lv_iload hx hb dL_law_357 (lv_at hl 5 rfl) ?_
  refine lv_iconst (v := (1 : Int32)) hx hb dL_law_359 (by decide) ?_
  refine lv_iadd hx hb dL_law_360 ?_
  refine va_sld hx hb hX hbl hbA hW.2.2 (sc_in 1 (by decide) hn hL) dL_law_361 ?_
  refine lv_aload_n hx hb dL_law_362 rfl (lv_at hl 1 rfl) ?_
  refine lv_iload hx hb dL_law_363 (lv_at hl 5 rfl) ?_
  refine lv_iconst (v := (2 : Int32)) hx hb dL_law_365 (by decide) ?_
  refine lv_iadd hx hb dL_law_366 ?_
  refine va_sld hx hb hX hbl hbA hW.2.2 (sc_in 2 (by decide) hn hL) dL_law_367 ?_
  refine lv_aload_n hx hb dL_law_368 rfl (lv_at hl 1 rfl) ?_
  refine lv_iload hx hb dL_law_369 (lv_at hl 5 rfl) ?_
  refine lv_iconst (v := (3 : Int32)) hx hb dL_law_371 (by decide) ?_
  refine lv_iadd hx hb dL_law_372 ?_
  refine va_sld hx hb hX hbl hbA hW.2.2 (sc_in 3 (by decide) hn hL) dL_law_373 ?_
  refine lv_aload_n hx hb dL_law_374 rfl (lv_at hl 1 rfl) ?_
  refine lv_iload hx hb dL_law_375 (lv_at hl 5 rfl) ?_
  refine lv_iconst (v := (4 : Int32)) hx hb dL_law_377 (by decide) ?_
  refine lv_iadd hx hb dL_law_378 ?_
  refine va_sld hx hb hX hbl hbA hW.2.2 (sc_in 4 (by decide) hn hL) dL_law_379 ?_
  refine lv_i2l hx hb dL_law_380 rfl ?_
  refine lv_bipush (v := (32 : Int32)) hx hb dL_law_381 (by decide) ?_
  refine lv_lshl hx hb dL_law_383 rfl ?_
  refine lv_aload_n hx hb dL_law_384 rfl (lv_at hl 1 rfl) ?_
  refine lv_iload hx hb dL_law_385 (lv_at hl 5 rfl) ?_
  refine lv_iconst (v := (5 : Int32)) hx hb dL_law_387 (by decide) ?_
  refine lv_iadd hx hb dL_law_388 ?_
  refine va_sld hx hb hX hbl hbA hW.2.2 (sc_in 5 (by decide) hn hL) dL_law_389 ?_
  refine lv_i2l hx hb dL_law_390 rfl ?_
  refine lv_ldc2 (own := RL) (v := (4294967295 : Int64)) hx hb hown (hts _ kc_L_113) dL_law_391 ?_
  refine lv_land hx hb dL_law_394 ?_
  refine lv_lor hx hb dL_law_395 ?_
  refine callVI (As := [.int _, .int _, .int _, .long _]) (rest := []) E hW (c_X9_put l hf9) lk_L_118 rcv_X9 (Nat.le_of_ble_eq_true rfl) (Nat.le_of_ble_eq_true rfl) (by show _ ≤ 601024; omega) (by show _ ≤ 7293034; omega) hl.1 (Nat.le_of_ble_eq_true rfl) dL_law_396 (fun H locs hW => ?_)
  refine lv_istore (lv' := [_, _, _, _, _, _, _]) hx hb dL_law_399 hl (by decide) rfl (fun ls hl => ?_)
  refine lv_aload_n hx hb dL_law_401 rfl (lv_at hl 4 rfl) ?_
  refine callVI (As := []) (rest := []) E hW (c_X9_thrown l rfl) lk_L_105 rcv_X9 (Nat.le_of_ble_eq_true rfl) (Nat.le_of_ble_eq_true rfl) (by show _ ≤ 601024; omega) (by show _ ≤ 7293034; omega) hl.1 (Nat.le_of_ble_eq_true rfl) dL_law_402 (fun H locs hW => ?_)
  refine lv_iload hx hb dL_law_405 (lv_at hl 1 rfl) ?_
  refine lv_icmp_eq (tgt := 412) hx hb dL_law_407 (by decide) (fun h9 => ?_) (fun h9 => absurd (by first | exact hkk | exact hkk.symm) h9)
  refine lv_iload hx hb dL_law_412 (lv_at hl 1 rfl) ?_
  refine lv_if_ne (tgt := 429) hx hb dL_law_414 (by decide) (fun h9 => ?_) (fun h9 => ?_)
  · refine lv_goto (tgt := 2053) hx hb dL_law_429 (by decide) ?_
    refine W.widen (k := cells + 3) (n := slots + 18) (by omega) (by omega) ?_
    exact hk _ _ _ _ _ _ hRN hW (lv_sub hl [2, 3, 4, 5, 6] rfl)
  · refine lv_aload_n hx hb dL_law_417 rfl (lv_at hl 5 rfl) ?_
    refine lv_iconst (v := (0 : Int32)) hx hb dL_law_418 (by decide) ?_
    refine ra_72 E hW (vp_in_nI (n := 0) (Nat.le_of_ble_eq_true rfl) (Nat.le_of_ble_eq_true rfl)) dL_law_419 ?_
    refine lv_iload hx hb dL_law_420 (lv_at hl 0 rfl) ?_
    refine lv_i2l hx hb dL_law_422 rfl ?_
    refine W.lcmp hx hb dL_law_423 ?_
    refine lv_if_eq (tgt := 429) hx hb dL_law_424 (by decide) (fun h8 => ?_) (fun h8 => absurd (lcmp_same (ho h9)) h8)
    refine lv_goto (tgt := 2053) hx hb dL_law_429 (by decide) ?_
    refine W.widen (k := cells + 3) (n := slots + 18) (by omega) (by omega) ?_
    exact hk _ _ _ _ _ _ hRN hW (lv_sub hl [2, 3, 4, 5, 6] rfl)
theorem lk_L_122 : LkV RL 122 yX9_tear cX9_tear 5 (some .int) 2 := ⟨(bigm (inT5 (List.mem_of_getElem? (i := 223) rfl)) rfl), km_X9_tear_inst, km_X9_tear_sel, ki_X9, km_X9_tear_code, by decide +kernel, by decide +kernel, by decide +kernel⟩
set_option maxHeartbeats 4000000 in
set_option maxRecDepth 100000 in
theorem lc_tear (hl0 : l.stackTraces = false) (A : LA X B p s m meth c b L xs) {R : CS → MS → Prop} (hS : H_tear R) {n : Nat} (hn : n + 6 ≤ L) (hR : R cs ms) (hc : cells + 3 ≤ 601024) (hsl : slots + 18 ≤ 7293034) (hW : Ws X B s.heap H locs (cs, ms, o)) (hl : lv_has ls 7 (LLs X b n)) (hk : ∀ (cs' : CS) (ms' : MS) (o' : Nat → Int64) (H' : Heap) (locs' : List Loc) (ls' : Array Slot), R cs' ms' → Ws X B s.heap H' locs' (cs', ms', o') → lv_has ls' 7 (LLs X b n) → W p l e room_1 s m #[Value.ref b] below meth c H' locs' (cells + 3) (slots + 18) Q (F0 m 2053 ls' [])) : W p l e room_1 s m #[Value.ref b] below meth c H locs cells slots Q (F0 m 432 ls []) := by
  obtain ⟨E, hX, hbl, hB, hL⟩ := A
  obtain ⟨hx, hb, hml, hown, hts, -⟩ := id E
  have hbA : ¬ Ab B b := fun q => absurd (show B ≤ b from q) (by omega)
  replace hl : lv_has ls 7 [(0, .ref b), (1, .ref (X.1 0)), (2, .ref (X.1 7)), (3, .ref (X.1 72)), (4, .int (nI n))] := hl
  obtain ⟨rb, ms9, hf9, r8, cs9, hf8, hA8⟩ := hS cs ms (xs (nI n + (1 : Int32)).toNatClampNeg) (xs (nI n + (2 : Int32)).toNatClampNeg) hR
  have hcd9 : ∀ E, E ∈ (["java/lang/IndexOutOfBoundsException"] : List String) → cd1 E ≠ 0 := by simp [cd1, cd2]
  refine lv_aload_n hx hb dL_law_432 rfl (lv_at hl 1 rfl) ?_
  refine lv_aload_n hx hb dL_law_433 rfl (lv_at hl 0 rfl) ?_
  refine lv_iload hx hb dL_law_434 (lv_at hl 4 rfl) ?_
  refine lv_iconst (v := (1 : Int32)) hx hb dL_law_436 (by decide) ?_
  refine lv_iadd hx hb dL_law_437 ?_
  refine va_sld hx hb hX hbl hbA hW.2.2 (sc_in 1 (by decide) hn hL) dL_law_438 ?_
  refine lv_aload_n hx hb dL_law_439 rfl (lv_at hl 0 rfl) ?_
  refine lv_iload hx hb dL_law_440 (lv_at hl 4 rfl) ?_
  refine lv_iconst (v := (2 : Int32)) hx hb dL_law_442 (by decide) ?_
  refine lv_iadd hx hb dL_law_443 ?_
  refine va_sld hx hb hX hbl hbA hW.2.2 (sc_in 2 (by decide) hn hL) dL_law_444 ?_
  refine lv_aload_n hx hb dL_law_445 rfl (lv_at hl 3 rfl) ?_
  refine callW (As := [.ref _, .int _, .int _, .ref _]) (rest := []) E hW (c_L_tear l (G := (fun (x : Int32 ⊕ String) (u : TS) => r8 = x ∧ u = (cs9, ms, o))) (c_X8_tear l hl0 hf8) (fun E9 t9 h9 => by
    have h8 := (((fun x t h => by obtain ⟨rfl, rfl⟩ := h; exact ⟨hA8, rfl⟩) : ∀ (x : Int32 ⊕ String) (t : TS), (fun (x : Int32 ⊕ String) (u : TS) => r8 = x ∧ u = (cs9, ms, o)) x t → Agr cd1 ["java/lang/IndexOutOfBoundsException"] R rb ms9 x t.1 ∧ t.2.1 = ms) _ _ h9).1.2.2.1 E9 rfl
    simpa using h8)) lw_L_119 (Nat.le_of_ble_eq_true rfl) (Nat.le_of_ble_eq_true rfl) (by show _ ≤ 601024; omega) (by show _ ≤ 7293034; omega) hl.1 (Nat.le_of_ble_eq_true rfl) dL_law_446 (fun k9 u9 hP H locs hW => ?_)
  obtain ⟨csN, oN, rfl, hkk, ho, hRN⟩ := lpost_out hP hcd9 (fun x t h => by obtain ⟨rfl, rfl⟩ := h; exact ⟨hA8, rfl⟩)
  refine lv_istore (lv' := [_, _, _, _, _, _]) hx hb dL_law_449 hl (by decide) rfl (fun ls hl => ?_)
  refine lv_aload_n hx hb dL_law_451 rfl (lv_at hl 3 rfl) ?_
  refine lv_aload_n hx hb dL_law_452 rfl (lv_at hl 1 rfl) ?_
  refine lv_iload hx hb dL_law_453 (lv_at hl 5 rfl) ?_
  refine lv_iconst (v := (1 : Int32)) hx hb dL_law_455 (by decide) ?_
  refine lv_iadd hx hb dL_law_456 ?_
  refine va_sld hx hb hX hbl hbA hW.2.2 (sc_in 1 (by decide) hn hL) dL_law_457 ?_
  refine lv_aload_n hx hb dL_law_458 rfl (lv_at hl 1 rfl) ?_
  refine lv_iload hx hb dL_law_459 (lv_at hl 5 rfl) ?_
  refine lv_iconst (v := (2 : Int32)) hx hb dL_law_461 (by decide) ?_
  refine lv_iadd hx hb dL_law_462 ?_
  refine va_sld hx hb hX hbl hbA hW.2.2 (sc_in 2 (by decide) hn hL) dL_law_463 ?_
  refine callVI (As := [.int _, .int _]) (rest := []) E hW (c_X9_tear l hf9) lk_L_122 rcv_X9 (Nat.le_of_ble_eq_true rfl) (Nat.le_of_ble_eq_true rfl) (by show _ ≤ 601024; omega) (by show _ ≤ 7293034; omega) hl.1 (Nat.le_of_ble_eq_true rfl) dL_law_464 (fun H locs hW => ?_)
  refine lv_istore (lv' := [_, _, _, _, _, _, _]) hx hb dL_law_467 hl (by decide) rfl (fun ls hl => ?_)
  refine lv_aload_n hx hb dL_law_469 rfl (lv_at hl 4 rfl) ?_
  refine callVI (As := []) (rest := []) E hW (c_X9_thrown l rfl) lk_L_105 rcv_X9 (Nat.le_of_ble_eq_true rfl) (Nat.le_of_ble_eq_true rfl) (by show _ ≤ 601024; omega) (by show _ ≤ 7293034; omega) hl.1 (Nat.le_of_ble_eq_true rfl) dL_law_470 (fun H locs hW => ?_)
  refine lv_iload hx hb dL_law_473 (lv_at hl 1 rfl) ?_
  refine lv_icmp_eq (tgt := 480) hx hb dL_law_475 (by decide) (fun h9 => ?_) (fun h9 => absurd (by first | exact hkk | exact hkk.symm) h9)
  refine lv_iload hx hb dL_law_480 (lv_at hl 1 rfl) ?_
  refine lv_if_ne (tgt := 497) hx hb dL_law_482 (by decide) (fun h9 => ?_) (fun h9 => ?_)
  · refine lv_goto (tgt := 2053) hx hb dL_law_497 (by decide) ?_
    refine W.widen (k := cells + 3) (n := slots + 18) (by omega) (by omega) ?_
    exact hk _ _ _ _ _ _ hRN hW (lv_sub hl [2, 3, 4, 5, 6] rfl)
  · refine lv_aload_n hx hb dL_law_485 rfl (lv_at hl 5 rfl) ?_
    refine lv_iconst (v := (0 : Int32)) hx hb dL_law_486 (by decide) ?_
    refine ra_72 E hW (vp_in_nI (n := 0) (Nat.le_of_ble_eq_true rfl) (Nat.le_of_ble_eq_true rfl)) dL_law_487 ?_
    refine lv_iload hx hb dL_law_488 (lv_at hl 0 rfl) ?_
    refine lv_i2l hx hb dL_law_490 rfl ?_
    refine W.lcmp hx hb dL_law_491 ?_
    refine lv_if_eq (tgt := 497) hx hb dL_law_492 (by decide) (fun h8 => ?_) (fun h8 => absurd (lcmp_same (ho h9)) h8)
    refine lv_goto (tgt := 2053) hx hb dL_law_497 (by decide) ?_
    refine W.widen (k := cells + 3) (n := slots + 18) (by omega) (by omega) ?_
    exact hk _ _ _ _ _ _ hRN hW (lv_sub hl [2, 3, 4, 5, 6] rfl)
theorem lk_L_123 : LkV RL 123 yX8_feed cX8_feed 6 (some .int) 5 := ⟨(bigm (inT1 (List.mem_of_getElem? (i := 199) rfl)) rfl), km_X8_feed_inst, km_X8_feed_sel, ki_X8, km_X8_feed_code, by decide +kernel, by decide +kernel, by decide +kernel⟩
theorem lk_L_127 : LkV RL 127 yX9_feed cX9_feed 8 (some .int) 5 := ⟨(bigm (inT5 (List.mem_of_getElem? (i := 227) rfl)) rfl), km_X9_feed_inst, km_X9_feed_sel, ki_X9, km_X9_feed_code, by decide +kernel, by decide +kernel, by decide +kernel⟩
set_option maxHeartbeats 4000000 in
set_option maxRecDepth 100000 in
theorem lc_feed (hl0 : l.stackTraces = false) (A : LA X B p s m meth c b L xs) {R : CS → MS → Prop} (hS : H_feed R) {n : Nat} (hn : n + 6 ≤ L) (hR : R cs ms) (hc : cells + 3 ≤ 601024) (hsl : slots + 18 ≤ 7293034) (hW : Ws X B s.heap H locs (cs, ms, o)) (hl : lv_has ls 7 (LLs X b n)) (hk : ∀ (cs' : CS) (ms' : MS) (o' : Nat → Int64) (H' : Heap) (locs' : List Loc) (ls' : Array Slot), R cs' ms' → Ws X B s.heap H' locs' (cs', ms', o') → lv_has ls' 7 (LLs X b n) → W p l e room_1 s m #[Value.ref b] below meth c H' locs' (cells + 3) (slots + 18) Q (F0 m 2053 ls' [])) : W p l e room_1 s m #[Value.ref b] below meth c H locs cells slots Q (F0 m 500 ls []) := by
  obtain ⟨E, hX, hbl, hB, hL⟩ := A
  obtain ⟨hx, hb, hml, hown, hts, -⟩ := id E
  have hbA : ¬ Ab B b := fun q => absurd (show B ≤ b from q) (by omega)
  replace hl : lv_has ls 7 [(0, .ref b), (1, .ref (X.1 0)), (2, .ref (X.1 7)), (3, .ref (X.1 72)), (4, .int (nI n))] := hl
  obtain ⟨r8, cs9, ms9, hf8, hf9, hRN⟩ := hS cs ms (xs (nI n + (1 : Int32)).toNatClampNeg) (xs (nI n + (2 : Int32)).toNatClampNeg) (xs (nI n + (3 : Int32)).toNatClampNeg) (xs (nI n + (4 : Int32)).toNatClampNeg) (xs (nI n + (5 : Int32)).toNatClampNeg) hR
  refine lv_aload_n hx hb dL_law_500 rfl (lv_at hl 1 rfl) ?_
  refine lv_aload_n hx hb dL_law_501 rfl (lv_at hl 0 rfl) ?_
  refine lv_iload hx hb dL_law_502 (lv_at hl 4 rfl) ?_
  refine lv_iconst (v := (1 : Int32)) hx hb dL_law_504 (by decide) ?_
  refine lv_iadd hx hb dL_law_505 ?_
  refine va_sld hx hb hX hbl hbA hW.2.2 (sc_in 1 (by decide) hn hL) dL_law_506 ?_
  refine lv_aload_n hx hb dL_law_507 rfl (lv_at hl 0 rfl) ?_
  refine lv_iload hx hb dL_law_508 (lv_at hl 4 rfl) ?_
  refine lv_iconst (v := (2 : Int32)) hx hb dL_law_510 (by decide) ?_
  refine lv_iadd hx hb dL_law_511 ?_
  refine va_sld hx hb hX hbl hbA hW.2.2 (sc_in 2 (by decide) hn hL) dL_law_512 ?_
  refine lv_aload_n hx hb dL_law_513 rfl (lv_at hl 0 rfl) ?_
  refine lv_iload hx hb dL_law_514 (lv_at hl 4 rfl) ?_
  refine lv_iconst (v := (3 : Int32)) hx hb dL_law_516 (by decide) ?_
  refine lv_iadd hx hb dL_law_517 ?_
  refine va_sld hx hb hX hbl hbA hW.2.2 (sc_in 3 (by decide) hn hL) dL_law_518 ?_
  refine lv_aload_n hx hb dL_law_519 rfl (lv_at hl 0 rfl) ?_
  refine lv_iload hx hb dL_law_520 (lv_at hl 4 rfl) ?_
  refine lv_iconst (v := (4 : Int32)) hx hb dL_law_522 (by decide) ?_
  refine lv_iadd hx hb dL_law_523 ?_
  refine va_sld hx hb hX hbl hbA hW.2.2 (sc_in 4 (by decide) hn hL) dL_law_524 ?_
  refine lv_aload_n hx hb dL_law_525 rfl (lv_at hl 0 rfl) ?_
  refine lv_iload hx hb dL_law_526 (lv_at hl 4 rfl) ?_
  refine lv_iconst (v := (5 : Int32)) hx hb dL_law_528 (by decide) ?_
  refine lv_iadd hx hb dL_law_529 ?_
  refine va_sld hx hb hX hbl hbA hW.2.2 (sc_in 5 (by decide) hn hL) dL_law_530 ?_
  refine callVI (As := [.int _, .int _, .int _, .int _, .int _]) (rest := []) E hW (c_X8_feed l hf8) lk_L_123 rcv_X8 (Nat.le_of_ble_eq_true rfl) (Nat.le_of_ble_eq_true rfl) (by show _ ≤ 601024; omega) (by show _ ≤ 7293034; omega) hl.1 (Nat.le_of_ble_eq_true rfl) dL_law_531 (fun H locs hW => ?_)
  refine lv_aload_n hx hb dL_law_534 rfl (lv_at hl 2 rfl) ?_
  refine lv_aload_n hx hb dL_law_535 rfl (lv_at hl 0 rfl) ?_
  refine lv_iload hx hb dL_law_536 (lv_at hl 4 rfl) ?_
  refine lv_iconst (v := (1 : Int32)) hx hb dL_law_538 (by decide) ?_
  refine lv_iadd hx hb dL_law_539 ?_
  refine va_sld hx hb hX hbl hbA hW.2.2 (sc_in 1 (by decide) hn hL) dL_law_540 ?_
  refine lv_aload_n hx hb dL_law_541 rfl (lv_at hl 0 rfl) ?_
  refine lv_iload hx hb dL_law_542 (lv_at hl 4 rfl) ?_
  refine lv_iconst (v := (2 : Int32)) hx hb dL_law_544 (by decide) ?_
  refine lv_iadd hx hb dL_law_545 ?_
  refine va_sld hx hb hX hbl hbA hW.2.2 (sc_in 2 (by decide) hn hL) dL_law_546 ?_
  refine lv_aload_n hx hb dL_law_547 rfl (lv_at hl 0 rfl) ?_
  refine lv_iload hx hb dL_law_548 (lv_at hl 4 rfl) ?_
  refine lv_iconst (v := (3 : Int32)) hx hb dL_law_550 (by decide) ?_
  refine lv_iadd hx hb dL_law_551 ?_
  refine va_sld hx hb hX hbl hbA hW.2.2 (sc_in 3 (by decide) hn hL) dL_law_552 ?_
  refine lv_aload_n hx hb dL_law_553 rfl (lv_at hl 0 rfl) ?_
  refine lv_iload hx hb dL_law_554 (lv_at hl 4 rfl) ?_
  refine lv_iconst (v := (4 : Int32)) hx hb dL_law_556 (by decide) ?_
  refine lv_iadd hx hb dL_law_557 ?_
  refine va_sld hx hb hX hbl hbA hW.2.2 (sc_in 4 (by decide) hn hL) dL_law_558 ?_
  refine lv_aload_n hx hb dL_law_559 rfl (lv_at hl 0 rfl) ?_
  refine lv_iload hx hb dL_law_560 (lv_at hl 4 rfl) ?_
  refine lv_iconst (v := (5 : Int32)) hx hb dL_law_562 (by decide) ?_
  refine lv_iadd hx hb dL_law_563 ?_
  refine va_sld hx hb hX hbl hbA hW.2.2 (sc_in 5 (by decide) hn hL) dL_law_564 ?_
  refine callVI (As := [.int _, .int _, .int _, .int _, .int _]) (rest := [.int _]) E hW (c_X9_feed l hf9) lk_L_127 rcv_X9 (Nat.le_of_ble_eq_true rfl) (Nat.le_of_ble_eq_true rfl) (by show _ ≤ 601024; omega) (by show _ ≤ 7293034; omega) hl.1 (Nat.le_of_ble_eq_true rfl) dL_law_565 (fun H locs hW => ?_)
  refine lv_icmp_eq (tgt := 2053) hx hb dL_law_568 (by decide) (fun h8 => ?_) (fun h8 => absurd rfl h8)
  refine W.widen (k := cells + 3) (n := slots + 18) (by omega) (by omega) ?_
  exact hk _ _ _ _ _ _ hRN hW (lv_sub hl [0, 1, 2, 3, 4] rfl)
theorem lk_L_130 : LkV RL 130 yX9_fit cX9_fit 5 (some .int) 1 := ⟨(bigm (inT5 (List.mem_of_getElem? (i := 231) rfl)) rfl), km_X9_fit_inst, km_X9_fit_sel, ki_X9, km_X9_fit_code, by decide +kernel, by decide +kernel, by decide +kernel⟩
set_option maxHeartbeats 4000000 in
set_option maxRecDepth 100000 in
theorem lc_fit (hl0 : l.stackTraces = false) (A : LA X B p s m meth c b L xs) {R : CS → MS → Prop} (hS : H_fit R) {n : Nat} (hn : n + 6 ≤ L) (hR : R cs ms) (hc : cells + 3 ≤ 601024) (hsl : slots + 18 ≤ 7293034) (hW : Ws X B s.heap H locs (cs, ms, o)) (hl : lv_has ls 7 (LLs X b n)) (hk : ∀ (cs' : CS) (ms' : MS) (o' : Nat → Int64) (H' : Heap) (locs' : List Loc) (ls' : Array Slot), R cs' ms' → Ws X B s.heap H' locs' (cs', ms', o') → lv_has ls' 7 (LLs X b n) → W p l e room_1 s m #[Value.ref b] below meth c H' locs' (cells + 3) (slots + 18) Q (F0 m 2053 ls' [])) : W p l e room_1 s m #[Value.ref b] below meth c H locs cells slots Q (F0 m 573 ls []) := by
  obtain ⟨E, hX, hbl, hB, hL⟩ := A
  obtain ⟨hx, hb, hml, hown, hts, -⟩ := id E
  have hbA : ¬ Ab B b := fun q => absurd (show B ≤ b from q) (by omega)
  replace hl : lv_has ls 7 [(0, .ref b), (1, .ref (X.1 0)), (2, .ref (X.1 7)), (3, .ref (X.1 72)), (4, .int (nI n))] := hl
  obtain ⟨rb, ms9, hf9, r8, cs9, hf8, hA8⟩ := hS cs ms (xs (nI n + (1 : Int32)).toNatClampNeg) hR
  have hcd9 : ∀ E, E ∈ (["java/lang/IllegalArgumentException"] : List String) → cd1 E ≠ 0 := by simp [cd1, cd2]
  refine lv_aload_n hx hb dL_law_573 rfl (lv_at hl 1 rfl) ?_
  refine lv_aload_n hx hb dL_law_574 rfl (lv_at hl 0 rfl) ?_
  refine lv_iload hx hb dL_law_575 (lv_at hl 4 rfl) ?_
  refine lv_iconst (v := (1 : Int32)) hx hb dL_law_577 (by decide) ?_
  refine lv_iadd hx hb dL_law_578 ?_
  refine va_sld hx hb hX hbl hbA hW.2.2 (sc_in 1 (by decide) hn hL) dL_law_579 ?_
  refine lv_aload_n hx hb dL_law_580 rfl (lv_at hl 3 rfl) ?_
  refine callW (As := [.ref _, .int _, .ref _]) (rest := []) E hW (c_L_fit l (G := (fun (x : Int32 ⊕ String) (u : TS) => r8 = x ∧ u = (cs9, ms, o))) (c_X8_fit l hl0 hf8) (fun E9 t9 h9 => by
    have h8 := (((fun x t h => by obtain ⟨rfl, rfl⟩ := h; exact ⟨hA8, rfl⟩) : ∀ (x : Int32 ⊕ String) (t : TS), (fun (x : Int32 ⊕ String) (u : TS) => r8 = x ∧ u = (cs9, ms, o)) x t → Agr cd1 ["java/lang/IllegalArgumentException"] R rb ms9 x t.1 ∧ t.2.1 = ms) _ _ h9).1.2.2.1 E9 rfl
    simpa using h8)) lw_L_128 (Nat.le_of_ble_eq_true rfl) (Nat.le_of_ble_eq_true rfl) (by show _ ≤ 601024; omega) (by show _ ≤ 7293034; omega) hl.1 (Nat.le_of_ble_eq_true rfl) dL_law_581 (fun k9 u9 hP H locs hW => ?_)
  obtain ⟨csN, oN, rfl, hkk, ho, hRN⟩ := lpost_out hP hcd9 (fun x t h => by obtain ⟨rfl, rfl⟩ := h; exact ⟨hA8, rfl⟩)
  refine lv_istore (lv' := [_, _, _, _, _, _]) hx hb dL_law_584 hl (by decide) rfl (fun ls hl => ?_)
  refine lv_aload_n hx hb dL_law_586 rfl (lv_at hl 3 rfl) ?_
  refine lv_aload_n hx hb dL_law_587 rfl (lv_at hl 1 rfl) ?_
  refine lv_iload hx hb dL_law_588 (lv_at hl 5 rfl) ?_
  refine lv_iconst (v := (1 : Int32)) hx hb dL_law_590 (by decide) ?_
  refine lv_iadd hx hb dL_law_591 ?_
  refine va_sld hx hb hX hbl hbA hW.2.2 (sc_in 1 (by decide) hn hL) dL_law_592 ?_
  refine callVI (As := [.int _]) (rest := []) E hW (c_X9_fit l hf9) lk_L_130 rcv_X9 (Nat.le_of_ble_eq_true rfl) (Nat.le_of_ble_eq_true rfl) (by show _ ≤ 601024; omega) (by show _ ≤ 7293034; omega) hl.1 (Nat.le_of_ble_eq_true rfl) dL_law_593 (fun H locs hW => ?_)
  refine lv_istore (lv' := [_, _, _, _, _, _, _]) hx hb dL_law_596 hl (by decide) rfl (fun ls hl => ?_)
  refine lv_aload_n hx hb dL_law_598 rfl (lv_at hl 4 rfl) ?_
  refine callVI (As := []) (rest := []) E hW (c_X9_thrown l rfl) lk_L_105 rcv_X9 (Nat.le_of_ble_eq_true rfl) (Nat.le_of_ble_eq_true rfl) (by show _ ≤ 601024; omega) (by show _ ≤ 7293034; omega) hl.1 (Nat.le_of_ble_eq_true rfl) dL_law_599 (fun H locs hW => ?_)
  refine lv_iload hx hb dL_law_602 (lv_at hl 1 rfl) ?_
  refine lv_icmp_eq (tgt := 609) hx hb dL_law_604 (by decide) (fun h9 => ?_) (fun h9 => absurd (by first | exact hkk | exact hkk.symm) h9)
  refine lv_iload hx hb dL_law_609 (lv_at hl 1 rfl) ?_
  refine lv_if_ne (tgt := 626) hx hb dL_law_611 (by decide) (fun h9 => ?_) (fun h9 => ?_)
  · refine lv_goto (tgt := 2053) hx hb dL_law_626 (by decide) ?_
    refine W.widen (k := cells + 3) (n := slots + 18) (by omega) (by omega) ?_
    exact hk _ _ _ _ _ _ hRN hW (lv_sub hl [2, 3, 4, 5, 6] rfl)
  · refine lv_aload_n hx hb dL_law_614 rfl (lv_at hl 5 rfl) ?_
    refine lv_iconst (v := (0 : Int32)) hx hb dL_law_615 (by decide) ?_
    refine ra_72 E hW (vp_in_nI (n := 0) (Nat.le_of_ble_eq_true rfl) (Nat.le_of_ble_eq_true rfl)) dL_law_616 ?_
    refine lv_iload hx hb dL_law_617 (lv_at hl 0 rfl) ?_
    refine lv_i2l hx hb dL_law_619 rfl ?_
    refine W.lcmp hx hb dL_law_620 ?_
    refine lv_if_eq (tgt := 626) hx hb dL_law_621 (by decide) (fun h8 => ?_) (fun h8 => absurd (lcmp_same (ho h9)) h8)
    refine lv_goto (tgt := 2053) hx hb dL_law_626 (by decide) ?_
    refine W.widen (k := cells + 3) (n := slots + 18) (by omega) (by omega) ?_
    exact hk _ _ _ _ _ _ hRN hW (lv_sub hl [2, 3, 4, 5, 6] rfl)
theorem lk_L_134 : LkV RL 134 yX9_says cX9_says 5 (some .boolean) 4 := ⟨(bigm (inT6 (List.mem_of_getElem? (i := 30) rfl)) rfl), km_X9_says_inst, km_X9_says_sel, ki_X9, km_X9_says_code, by decide +kernel, by decide +kernel, by decide +kernel⟩
set_option maxHeartbeats 4000000 in
set_option maxRecDepth 100000 in
theorem lc_says (hl0 : l.stackTraces = false) (A : LA X B p s m meth c b L xs) {R : CS → MS → Prop} (hS : H_says R) {n : Nat} (hn : n + 6 ≤ L) (hR : R cs ms) (hc : cells + 3 ≤ 601024) (hsl : slots + 18 ≤ 7293034) (hW : Ws X B s.heap H locs (cs, ms, o)) (hl : lv_has ls 7 (LLs X b n)) (hk : ∀ (cs' : CS) (ms' : MS) (o' : Nat → Int64) (H' : Heap) (locs' : List Loc) (ls' : Array Slot), R cs' ms' → Ws X B s.heap H' locs' (cs', ms', o') → lv_has ls' 7 (LLs X b n) → W p l e room_1 s m #[Value.ref b] below meth c H' locs' (cells + 3) (slots + 18) Q (F0 m 2053 ls' [])) : W p l e room_1 s m #[Value.ref b] below meth c H locs cells slots Q (F0 m 629 ls []) := by
  obtain ⟨E, hX, hbl, hB, hL⟩ := A
  obtain ⟨hx, hb, hml, hown, hts, -⟩ := id E
  have hbA : ¬ Ab B b := fun q => absurd (show B ≤ b from q) (by omega)
  replace hl : lv_has ls 7 [(0, .ref b), (1, .ref (X.1 0)), (2, .ref (X.1 7)), (3, .ref (X.1 72)), (4, .int (nI n))] := hl
  obtain ⟨rb, ms9, hf9, r8, cs9, hf8, hA8⟩ := hS cs ms (xs (nI n + (1 : Int32)).toNatClampNeg) (xs (nI n + (2 : Int32)).toNatClampNeg) (xs (nI n + (3 : Int32)).toNatClampNeg) (xs (nI n + (4 : Int32)).toNatClampNeg) hR
  have hcd9 : ∀ E, E ∈ (["java/lang/IndexOutOfBoundsException"] : List String) → cd1 E ≠ 0 := by simp [cd1, cd2]
  refine lv_aload_n hx hb dL_law_629 rfl (lv_at hl 1 rfl) ?_
  refine lv_aload_n hx hb dL_law_630 rfl (lv_at hl 0 rfl) ?_
  refine lv_iload hx hb dL_law_631 (lv_at hl 4 rfl) ?_
  refine lv_iconst (v := (1 : Int32)) hx hb dL_law_633 (by decide) ?_
  refine lv_iadd hx hb dL_law_634 ?_
  refine va_sld hx hb hX hbl hbA hW.2.2 (sc_in 1 (by decide) hn hL) dL_law_635 ?_
  refine lv_aload_n hx hb dL_law_636 rfl (lv_at hl 0 rfl) ?_
  refine lv_iload hx hb dL_law_637 (lv_at hl 4 rfl) ?_
  refine lv_iconst (v := (2 : Int32)) hx hb dL_law_639 (by decide) ?_
  refine lv_iadd hx hb dL_law_640 ?_
  refine va_sld hx hb hX hbl hbA hW.2.2 (sc_in 2 (by decide) hn hL) dL_law_641 ?_
  refine lv_aload_n hx hb dL_law_642 rfl (lv_at hl 0 rfl) ?_
  refine lv_iload hx hb dL_law_643 (lv_at hl 4 rfl) ?_
  refine lv_iconst (v := (3 : Int32)) hx hb dL_law_645 (by decide) ?_
  refine lv_iadd hx hb dL_law_646 ?_
  refine va_sld hx hb hX hbl hbA hW.2.2 (sc_in 3 (by decide) hn hL) dL_law_647 ?_
  refine lv_aload_n hx hb dL_law_648 rfl (lv_at hl 0 rfl) ?_
  refine lv_iload hx hb dL_law_649 (lv_at hl 4 rfl) ?_
  refine lv_iconst (v := (4 : Int32)) hx hb dL_law_651 (by decide) ?_
  refine lv_iadd hx hb dL_law_652 ?_
  refine va_sld hx hb hX hbl hbA hW.2.2 (sc_in 4 (by decide) hn hL) dL_law_653 ?_
  refine lv_aload_n hx hb dL_law_654 rfl (lv_at hl 3 rfl) ?_
  refine callW (As := [.ref _, .int _, .int _, .int _, .int _, .ref _]) (rest := []) E hW (c_L_says l (G := (fun (x : Int32 ⊕ String) (u : TS) => r8 = x ∧ u = (cs9, ms, o))) (c_X8_says l hl0 hf8) (fun E9 t9 h9 => by
    have h8 := (((fun x t h => by obtain ⟨rfl, rfl⟩ := h; exact ⟨hA8, rfl⟩) : ∀ (x : Int32 ⊕ String) (t : TS), (fun (x : Int32 ⊕ String) (u : TS) => r8 = x ∧ u = (cs9, ms, o)) x t → Agr cd1 ["java/lang/IndexOutOfBoundsException"] R rb ms9 x t.1 ∧ t.2.1 = ms) _ _ h9).1.2.2.1 E9 rfl
    simpa using h8)) lw_L_131 (Nat.le_of_ble_eq_true rfl) (Nat.le_of_ble_eq_true rfl) (by show _ ≤ 601024; omega) (by show _ ≤ 7293034; omega) hl.1 (Nat.le_of_ble_eq_true rfl) dL_law_655 (fun k9 u9 hP H locs hW => ?_)
  obtain ⟨csN, oN, rfl, hkk, ho, hRN⟩ := lpost_out hP hcd9 (fun x t h => by obtain ⟨rfl, rfl⟩ := h; exact ⟨hA8, rfl⟩)
  refine lv_istore (lv' := [_, _, _, _, _, _]) hx hb dL_law_658 hl (by decide) rfl (fun ls hl => ?_)
  refine lv_aload_n hx hb dL_law_660 rfl (lv_at hl 3 rfl) ?_
  refine lv_aload_n hx hb dL_law_661 rfl (lv_at hl 1 rfl) ?_
  refine lv_iload hx hb dL_law_662 (lv_at hl 5 rfl) ?_
  refine lv_iconst (v := (1 : Int32)) hx hb dL_law_664 (by decide) ?_
  refine lv_iadd hx hb dL_law_665 ?_
  refine va_sld hx hb hX hbl hbA hW.2.2 (sc_in 1 (by decide) hn hL) dL_law_666 ?_
  refine lv_aload_n hx hb dL_law_667 rfl (lv_at hl 1 rfl) ?_
  refine lv_iload hx hb dL_law_668 (lv_at hl 5 rfl) ?_
  refine lv_iconst (v := (2 : Int32)) hx hb dL_law_670 (by decide) ?_
  refine lv_iadd hx hb dL_law_671 ?_
  refine va_sld hx hb hX hbl hbA hW.2.2 (sc_in 2 (by decide) hn hL) dL_law_672 ?_
  refine lv_aload_n hx hb dL_law_673 rfl (lv_at hl 1 rfl) ?_
  refine lv_iload hx hb dL_law_674 (lv_at hl 5 rfl) ?_
  refine lv_iconst (v := (3 : Int32)) hx hb dL_law_676 (by decide) ?_
  refine lv_iadd hx hb dL_law_677 ?_
  refine va_sld hx hb hX hbl hbA hW.2.2 (sc_in 3 (by decide) hn hL) dL_law_678 ?_
  refine lv_aload_n hx hb dL_law_679 rfl (lv_at hl 1 rfl) ?_
  refine lv_iload hx hb dL_law_680 (lv_at hl 5 rfl) ?_
  refine lv_iconst (v := (4 : Int32)) hx hb dL_law_682 (by decide) ?_
  refine lv_iadd hx hb dL_law_683 ?_
  refine va_sld hx hb hX hbl hbA hW.2.2 (sc_in 4 (by decide) hn hL) dL_law_684 ?_
  refine callVI (As := [.int _, .int _, .int _, .int _]) (rest := []) E hW (c_X9_says l hf9) lk_L_134 rcv_X9 (Nat.le_of_ble_eq_true rfl) (Nat.le_of_ble_eq_true rfl) (by show _ ≤ 601024; omega) (by show _ ≤ 7293034; omega) hl.1 (Nat.le_of_ble_eq_true rfl) dL_law_685 (fun H locs hW => ?_)
  refine lv_istore (lv' := [_, _, _, _, _, _, _]) hx hb dL_law_688 hl (by decide) rfl (fun ls hl => ?_)
  refine lv_aload_n hx hb dL_law_690 rfl (lv_at hl 4 rfl) ?_
  refine callVI (As := []) (rest := []) E hW (c_X9_thrown l rfl) lk_L_105 rcv_X9 (Nat.le_of_ble_eq_true rfl) (Nat.le_of_ble_eq_true rfl) (by show _ ≤ 601024; omega) (by show _ ≤ 7293034; omega) hl.1 (Nat.le_of_ble_eq_true rfl) dL_law_691 (fun H locs hW => ?_)
  refine lv_iload hx hb dL_law_694 (lv_at hl 1 rfl) ?_
  refine lv_icmp_eq (tgt := 701) hx hb dL_law_696 (by decide) (fun h9 => ?_) (fun h9 => absurd (by first | exact hkk | exact hkk.symm) h9)
  refine lv_iload hx hb dL_law_701 (lv_at hl 1 rfl) ?_
  refine lv_if_ne (tgt := 725) hx hb dL_law_703 (by decide) (fun h9 => ?_) (fun h9 => ?_)
  · refine lv_goto (tgt := 2053) hx hb dL_law_725 (by decide) ?_
    refine W.widen (k := cells + 3) (n := slots + 18) (by omega) (by omega) ?_
    exact hk _ _ _ _ _ _ hRN hW (lv_sub hl [2, 3, 4, 5, 6] rfl)
  · refine lv_aload_n hx hb dL_law_706 rfl (lv_at hl 5 rfl) ?_
    refine lv_iconst (v := (0 : Int32)) hx hb dL_law_707 (by decide) ?_
    refine ra_72 E hW (vp_in_nI (n := 0) (Nat.le_of_ble_eq_true rfl) (Nat.le_of_ble_eq_true rfl)) dL_law_708 ?_
    refine lv_iload hx hb dL_law_709 (lv_at hl 0 rfl) ?_
    refine lv_if_eq (tgt := 718) hx hb dL_law_711 (by decide) (fun h7 => ?_) (fun h7 => ?_)
    · refine lv_lconst (v := (0 : Int64)) hx hb dL_law_718 (by decide) ?_
      refine W.lcmp hx hb dL_law_719 ?_
      refine lv_if_eq (tgt := 725) hx hb dL_law_720 (by decide) (fun h8 => ?_) (fun h8 => absurd (lcmp_same ((ho h9).trans (if_pos h7))) h8)
      refine lv_goto (tgt := 2053) hx hb dL_law_725 (by decide) ?_
      refine W.widen (k := cells + 3) (n := slots + 18) (by omega) (by omega) ?_
      exact hk _ _ _ _ _ _ hRN hW (lv_sub hl [2, 3, 4, 5, 6] rfl)
    · refine lv_lconst (v := (1 : Int64)) hx hb dL_law_714 (by decide) ?_
      refine lv_goto (tgt := 719) hx hb dL_law_715 (by decide) ?_
      refine W.lcmp hx hb dL_law_719 ?_
      refine lv_if_eq (tgt := 725) hx hb dL_law_720 (by decide) (fun h8 => ?_) (fun h8 => absurd (lcmp_same ((ho h9).trans (if_neg h7))) h8)
      refine lv_goto (tgt := 2053) hx hb dL_law_725 (by decide) ?_
      refine W.widen (k := cells + 3) (n := slots + 18) (by omega) (by omega) ?_
      exact hk _ _ _ _ _ _ hRN hW (lv_sub hl [2, 3, 4, 5, 6] rfl)
theorem lk_L_137 : LkV RL 137 yX9_part cX9_part 10 (some .int) 3 := ⟨(bigm (inT6 (List.mem_of_getElem? (i := 38) rfl)) rfl), km_X9_part_inst, km_X9_part_sel, ki_X9, km_X9_part_code, by decide +kernel, by decide +kernel, by decide +kernel⟩
set_option maxHeartbeats 4000000 in
set_option maxRecDepth 100000 in
theorem lc_part (hl0 : l.stackTraces = false) (A : LA X B p s m meth c b L xs) {R : CS → MS → Prop} (hS : H_part R) {n : Nat} (hn : n + 6 ≤ L) (hR : R cs ms) (hc : cells + 3 ≤ 601024) (hsl : slots + 18 ≤ 7293034) (hW : Ws X B s.heap H locs (cs, ms, o)) (hl : lv_has ls 7 (LLs X b n)) (hk : ∀ (cs' : CS) (ms' : MS) (o' : Nat → Int64) (H' : Heap) (locs' : List Loc) (ls' : Array Slot), R cs' ms' → Ws X B s.heap H' locs' (cs', ms', o') → lv_has ls' 7 (LLs X b n) → W p l e room_1 s m #[Value.ref b] below meth c H' locs' (cells + 3) (slots + 18) Q (F0 m 2053 ls' [])) : W p l e room_1 s m #[Value.ref b] below meth c H locs cells slots Q (F0 m 728 ls []) := by
  obtain ⟨E, hX, hbl, hB, hL⟩ := A
  obtain ⟨hx, hb, hml, hown, hts, -⟩ := id E
  have hbA : ¬ Ab B b := fun q => absurd (show B ≤ b from q) (by omega)
  replace hl : lv_has ls 7 [(0, .ref b), (1, .ref (X.1 0)), (2, .ref (X.1 7)), (3, .ref (X.1 72)), (4, .int (nI n))] := hl
  obtain ⟨rb, ms9, hf9, r8, cs9, hf8, hA8⟩ := hS cs ms (xs (nI n + (1 : Int32)).toNatClampNeg) (xs (nI n + (2 : Int32)).toNatClampNeg) (xs (nI n + (3 : Int32)).toNatClampNeg) hR
  have hcd9 : ∀ E, E ∈ (["java/lang/IllegalArgumentException", "java/lang/IndexOutOfBoundsException"] : List String) → (cd2 "java/lang/IllegalArgumentException") E ≠ 0 := by simp [cd1, cd2]
  refine lv_aload_n hx hb dL_law_728 rfl (lv_at hl 1 rfl) ?_
  refine lv_aload_n hx hb dL_law_729 rfl (lv_at hl 0 rfl) ?_
  refine lv_iload hx hb dL_law_730 (lv_at hl 4 rfl) ?_
  refine lv_iconst (v := (1 : Int32)) hx hb dL_law_732 (by decide) ?_
  refine lv_iadd hx hb dL_law_733 ?_
  refine va_sld hx hb hX hbl hbA hW.2.2 (sc_in 1 (by decide) hn hL) dL_law_734 ?_
  refine lv_aload_n hx hb dL_law_735 rfl (lv_at hl 0 rfl) ?_
  refine lv_iload hx hb dL_law_736 (lv_at hl 4 rfl) ?_
  refine lv_iconst (v := (2 : Int32)) hx hb dL_law_738 (by decide) ?_
  refine lv_iadd hx hb dL_law_739 ?_
  refine va_sld hx hb hX hbl hbA hW.2.2 (sc_in 2 (by decide) hn hL) dL_law_740 ?_
  refine lv_aload_n hx hb dL_law_741 rfl (lv_at hl 0 rfl) ?_
  refine lv_iload hx hb dL_law_742 (lv_at hl 4 rfl) ?_
  refine lv_iconst (v := (3 : Int32)) hx hb dL_law_744 (by decide) ?_
  refine lv_iadd hx hb dL_law_745 ?_
  refine va_sld hx hb hX hbl hbA hW.2.2 (sc_in 3 (by decide) hn hL) dL_law_746 ?_
  refine lv_aload_n hx hb dL_law_747 rfl (lv_at hl 3 rfl) ?_
  refine callW (As := [.ref _, .int _, .int _, .int _, .ref _]) (rest := []) E hW (c_L_part l (G := (fun (x : Int32 ⊕ String) (u : TS) => r8 = x ∧ u = (cs9, ms, o))) (c_X8_part l hl0 hf8) (fun E9 t9 h9 => by
    have h8 := (((fun x t h => by obtain ⟨rfl, rfl⟩ := h; exact ⟨hA8, rfl⟩) : ∀ (x : Int32 ⊕ String) (t : TS), (fun (x : Int32 ⊕ String) (u : TS) => r8 = x ∧ u = (cs9, ms, o)) x t → Agr (cd2 "java/lang/IllegalArgumentException") ["java/lang/IllegalArgumentException", "java/lang/IndexOutOfBoundsException"] R rb ms9 x t.1 ∧ t.2.1 = ms) _ _ h9).1.2.2.1 E9 rfl
    simpa using h8)) lw_L_135 (Nat.le_of_ble_eq_true rfl) (Nat.le_of_ble_eq_true rfl) (by show _ ≤ 601024; omega) (by show _ ≤ 7293034; omega) hl.1 (Nat.le_of_ble_eq_true rfl) dL_law_748 (fun k9 u9 hP H locs hW => ?_)
  obtain ⟨csN, oN, rfl, hkk, ho, hRN⟩ := lpost_out hP hcd9 (fun x t h => by obtain ⟨rfl, rfl⟩ := h; exact ⟨hA8, rfl⟩)
  refine lv_istore (lv' := [_, _, _, _, _, _]) hx hb dL_law_751 hl (by decide) rfl (fun ls hl => ?_)
  refine lv_aload_n hx hb dL_law_753 rfl (lv_at hl 3 rfl) ?_
  refine lv_aload_n hx hb dL_law_754 rfl (lv_at hl 1 rfl) ?_
  refine lv_iload hx hb dL_law_755 (lv_at hl 5 rfl) ?_
  refine lv_iconst (v := (1 : Int32)) hx hb dL_law_757 (by decide) ?_
  refine lv_iadd hx hb dL_law_758 ?_
  refine va_sld hx hb hX hbl hbA hW.2.2 (sc_in 1 (by decide) hn hL) dL_law_759 ?_
  refine lv_aload_n hx hb dL_law_760 rfl (lv_at hl 1 rfl) ?_
  refine lv_iload hx hb dL_law_761 (lv_at hl 5 rfl) ?_
  refine lv_iconst (v := (2 : Int32)) hx hb dL_law_763 (by decide) ?_
  refine lv_iadd hx hb dL_law_764 ?_
  refine va_sld hx hb hX hbl hbA hW.2.2 (sc_in 2 (by decide) hn hL) dL_law_765 ?_
  refine lv_aload_n hx hb dL_law_766 rfl (lv_at hl 1 rfl) ?_
  refine lv_iload hx hb dL_law_767 (lv_at hl 5 rfl) ?_
  refine lv_iconst (v := (3 : Int32)) hx hb dL_law_769 (by decide) ?_
  refine lv_iadd hx hb dL_law_770 ?_
  refine va_sld hx hb hX hbl hbA hW.2.2 (sc_in 3 (by decide) hn hL) dL_law_771 ?_
  refine callVI (As := [.int _, .int _, .int _]) (rest := []) E hW (c_X9_part l hf9) lk_L_137 rcv_X9 (Nat.le_of_ble_eq_true rfl) (Nat.le_of_ble_eq_true rfl) (by show _ ≤ 601024; omega) (by show _ ≤ 7293034; omega) hl.1 (Nat.le_of_ble_eq_true rfl) dL_law_772 (fun H locs hW => ?_)
  refine lv_istore (lv' := [_, _, _, _, _, _, _]) hx hb dL_law_775 hl (by decide) rfl (fun ls hl => ?_)
  refine lv_aload_n hx hb dL_law_777 rfl (lv_at hl 4 rfl) ?_
  refine callVI (As := []) (rest := []) E hW (c_X9_thrown l rfl) lk_L_105 rcv_X9 (Nat.le_of_ble_eq_true rfl) (Nat.le_of_ble_eq_true rfl) (by show _ ≤ 601024; omega) (by show _ ≤ 7293034; omega) hl.1 (Nat.le_of_ble_eq_true rfl) dL_law_778 (fun H locs hW => ?_)
  refine lv_iload hx hb dL_law_781 (lv_at hl 1 rfl) ?_
  refine lv_icmp_eq (tgt := 788) hx hb dL_law_783 (by decide) (fun h9 => ?_) (fun h9 => absurd (by first | exact hkk | exact hkk.symm) h9)
  refine lv_iload hx hb dL_law_788 (lv_at hl 1 rfl) ?_
  refine lv_if_ne (tgt := 805) hx hb dL_law_790 (by decide) (fun h9 => ?_) (fun h9 => ?_)
  · refine lv_goto (tgt := 2053) hx hb dL_law_805 (by decide) ?_
    refine W.widen (k := cells + 3) (n := slots + 18) (by omega) (by omega) ?_
    exact hk _ _ _ _ _ _ hRN hW (lv_sub hl [2, 3, 4, 5, 6] rfl)
  · refine lv_aload_n hx hb dL_law_793 rfl (lv_at hl 5 rfl) ?_
    refine lv_iconst (v := (0 : Int32)) hx hb dL_law_794 (by decide) ?_
    refine ra_72 E hW (vp_in_nI (n := 0) (Nat.le_of_ble_eq_true rfl) (Nat.le_of_ble_eq_true rfl)) dL_law_795 ?_
    refine lv_iload hx hb dL_law_796 (lv_at hl 0 rfl) ?_
    refine lv_i2l hx hb dL_law_798 rfl ?_
    refine W.lcmp hx hb dL_law_799 ?_
    refine lv_if_eq (tgt := 805) hx hb dL_law_800 (by decide) (fun h8 => ?_) (fun h8 => absurd (lcmp_same (ho h9)) h8)
    refine lv_goto (tgt := 2053) hx hb dL_law_805 (by decide) ?_
    refine W.widen (k := cells + 3) (n := slots + 18) (by omega) (by omega) ?_
    exact hk _ _ _ _ _ _ hRN hW (lv_sub hl [2, 3, 4, 5, 6] rfl)
theorem lk_L_140 : LkV RL 140 yX9_told cX9_told 5 (some .int) 3 := ⟨(bigm (inT6 (List.mem_of_getElem? (i := 57) rfl)) rfl), km_X9_told_inst, km_X9_told_sel, ki_X9, km_X9_told_code, by decide +kernel, by decide +kernel, by decide +kernel⟩
set_option maxHeartbeats 4000000 in
set_option maxRecDepth 100000 in
theorem lc_told (hl0 : l.stackTraces = false) (A : LA X B p s m meth c b L xs) {R : CS → MS → Prop} (hS : H_told R) {n : Nat} (hn : n + 6 ≤ L) (hR : R cs ms) (hc : cells + 3 ≤ 601024) (hsl : slots + 18 ≤ 7293034) (hW : Ws X B s.heap H locs (cs, ms, o)) (hl : lv_has ls 7 (LLs X b n)) (hk : ∀ (cs' : CS) (ms' : MS) (o' : Nat → Int64) (H' : Heap) (locs' : List Loc) (ls' : Array Slot), R cs' ms' → Ws X B s.heap H' locs' (cs', ms', o') → lv_has ls' 7 (LLs X b n) → W p l e room_1 s m #[Value.ref b] below meth c H' locs' (cells + 3) (slots + 18) Q (F0 m 2053 ls' [])) : W p l e room_1 s m #[Value.ref b] below meth c H locs cells slots Q (F0 m 808 ls []) := by
  obtain ⟨E, hX, hbl, hB, hL⟩ := A
  obtain ⟨hx, hb, hml, hown, hts, -⟩ := id E
  have hbA : ¬ Ab B b := fun q => absurd (show B ≤ b from q) (by omega)
  replace hl : lv_has ls 7 [(0, .ref b), (1, .ref (X.1 0)), (2, .ref (X.1 7)), (3, .ref (X.1 72)), (4, .int (nI n))] := hl
  obtain ⟨rb, ms9, hf9, r8, cs9, hf8, hA8⟩ := hS cs ms (xs (nI n + (1 : Int32)).toNatClampNeg) (xs (nI n + (2 : Int32)).toNatClampNeg) (xs (nI n + (3 : Int32)).toNatClampNeg) hR
  have hcd9 : ∀ E, E ∈ (["java/util/NoSuchElementException", "java/lang/IllegalArgumentException"] : List String) → (cd2 "java/util/NoSuchElementException") E ≠ 0 := by simp [cd1, cd2]
  refine lv_aload_n hx hb dL_law_808 rfl (lv_at hl 1 rfl) ?_
  refine lv_aload_n hx hb dL_law_809 rfl (lv_at hl 0 rfl) ?_
  refine lv_iload hx hb dL_law_810 (lv_at hl 4 rfl) ?_
  refine lv_iconst (v := (1 : Int32)) hx hb dL_law_812 (by decide) ?_
  refine lv_iadd hx hb dL_law_813 ?_
  refine va_sld hx hb hX hbl hbA hW.2.2 (sc_in 1 (by decide) hn hL) dL_law_814 ?_
  refine lv_aload_n hx hb dL_law_815 rfl (lv_at hl 0 rfl) ?_
  refine lv_iload hx hb dL_law_816 (lv_at hl 4 rfl) ?_
  refine lv_iconst (v := (2 : Int32)) hx hb dL_law_818 (by decide) ?_
  refine lv_iadd hx hb dL_law_819 ?_
  refine va_sld hx hb hX hbl hbA hW.2.2 (sc_in 2 (by decide) hn hL) dL_law_820 ?_
  refine lv_aload_n hx hb dL_law_821 rfl (lv_at hl 0 rfl) ?_
  refine lv_iload hx hb dL_law_822 (lv_at hl 4 rfl) ?_
  refine lv_iconst (v := (3 : Int32)) hx hb dL_law_824 (by decide) ?_
  refine lv_iadd hx hb dL_law_825 ?_
  refine va_sld hx hb hX hbl hbA hW.2.2 (sc_in 3 (by decide) hn hL) dL_law_826 ?_
  refine lv_aload_n hx hb dL_law_827 rfl (lv_at hl 3 rfl) ?_
  refine callW (As := [.ref _, .int _, .int _, .int _, .ref _]) (rest := []) E hW (c_L_told l (G := (fun (x : Int32 ⊕ String) (u : TS) => r8 = x ∧ u = (cs9, ms, o))) (c_X8_told l hl0 hf8) (fun E9 t9 h9 => by
    have h8 := (((fun x t h => by obtain ⟨rfl, rfl⟩ := h; exact ⟨hA8, rfl⟩) : ∀ (x : Int32 ⊕ String) (t : TS), (fun (x : Int32 ⊕ String) (u : TS) => r8 = x ∧ u = (cs9, ms, o)) x t → Agr (cd2 "java/util/NoSuchElementException") ["java/util/NoSuchElementException", "java/lang/IllegalArgumentException"] R rb ms9 x t.1 ∧ t.2.1 = ms) _ _ h9).1.2.2.1 E9 rfl
    simpa using h8)) lw_L_138 (Nat.le_of_ble_eq_true rfl) (Nat.le_of_ble_eq_true rfl) (by show _ ≤ 601024; omega) (by show _ ≤ 7293034; omega) hl.1 (Nat.le_of_ble_eq_true rfl) dL_law_828 (fun k9 u9 hP H locs hW => ?_)
  obtain ⟨csN, oN, rfl, hkk, ho, hRN⟩ := lpost_out hP hcd9 (fun x t h => by obtain ⟨rfl, rfl⟩ := h; exact ⟨hA8, rfl⟩)
  refine lv_istore (lv' := [_, _, _, _, _, _]) hx hb dL_law_831 hl (by decide) rfl (fun ls hl => ?_)
  refine lv_aload_n hx hb dL_law_833 rfl (lv_at hl 3 rfl) ?_
  refine lv_aload_n hx hb dL_law_834 rfl (lv_at hl 1 rfl) ?_
  refine lv_iload hx hb dL_law_835 (lv_at hl 5 rfl) ?_
  refine lv_iconst (v := (1 : Int32)) hx hb dL_law_837 (by decide) ?_
  refine lv_iadd hx hb dL_law_838 ?_
  refine va_sld hx hb hX hbl hbA hW.2.2 (sc_in 1 (by decide) hn hL) dL_law_839 ?_
  refine lv_aload_n hx hb dL_law_840 rfl (lv_at hl 1 rfl) ?_
  refine lv_iload hx hb dL_law_841 (lv_at hl 5 rfl) ?_
  refine lv_iconst (v := (2 : Int32)) hx hb dL_law_843 (by decide) ?_
  refine lv_iadd hx hb dL_law_844 ?_
  refine va_sld hx hb hX hbl hbA hW.2.2 (sc_in 2 (by decide) hn hL) dL_law_845 ?_
  refine lv_aload_n hx hb dL_law_846 rfl (lv_at hl 1 rfl) ?_
  refine lv_iload hx hb dL_law_847 (lv_at hl 5 rfl) ?_
  refine lv_iconst (v := (3 : Int32)) hx hb dL_law_849 (by decide) ?_
  refine lv_iadd hx hb dL_law_850 ?_
  refine va_sld hx hb hX hbl hbA hW.2.2 (sc_in 3 (by decide) hn hL) dL_law_851 ?_
  refine callVI (As := [.int _, .int _, .int _]) (rest := []) E hW (c_X9_told l hf9) lk_L_140 rcv_X9 (Nat.le_of_ble_eq_true rfl) (Nat.le_of_ble_eq_true rfl) (by show _ ≤ 601024; omega) (by show _ ≤ 7293034; omega) hl.1 (Nat.le_of_ble_eq_true rfl) dL_law_852 (fun H locs hW => ?_)
  refine lv_istore (lv' := [_, _, _, _, _, _, _]) hx hb dL_law_855 hl (by decide) rfl (fun ls hl => ?_)
  refine lv_aload_n hx hb dL_law_857 rfl (lv_at hl 4 rfl) ?_
  refine callVI (As := []) (rest := []) E hW (c_X9_thrown l rfl) lk_L_105 rcv_X9 (Nat.le_of_ble_eq_true rfl) (Nat.le_of_ble_eq_true rfl) (by show _ ≤ 601024; omega) (by show _ ≤ 7293034; omega) hl.1 (Nat.le_of_ble_eq_true rfl) dL_law_858 (fun H locs hW => ?_)
  refine lv_iload hx hb dL_law_861 (lv_at hl 1 rfl) ?_
  refine lv_icmp_eq (tgt := 868) hx hb dL_law_863 (by decide) (fun h9 => ?_) (fun h9 => absurd (by first | exact hkk | exact hkk.symm) h9)
  refine lv_iload hx hb dL_law_868 (lv_at hl 1 rfl) ?_
  refine lv_if_ne (tgt := 885) hx hb dL_law_870 (by decide) (fun h9 => ?_) (fun h9 => ?_)
  · refine lv_goto (tgt := 2053) hx hb dL_law_885 (by decide) ?_
    refine W.widen (k := cells + 3) (n := slots + 18) (by omega) (by omega) ?_
    exact hk _ _ _ _ _ _ hRN hW (lv_sub hl [2, 3, 4, 5, 6] rfl)
  · refine lv_aload_n hx hb dL_law_873 rfl (lv_at hl 5 rfl) ?_
    refine lv_iconst (v := (0 : Int32)) hx hb dL_law_874 (by decide) ?_
    refine ra_72 E hW (vp_in_nI (n := 0) (Nat.le_of_ble_eq_true rfl) (Nat.le_of_ble_eq_true rfl)) dL_law_875 ?_
    refine lv_iload hx hb dL_law_876 (lv_at hl 0 rfl) ?_
    refine lv_i2l hx hb dL_law_878 rfl ?_
    refine W.lcmp hx hb dL_law_879 ?_
    refine lv_if_eq (tgt := 885) hx hb dL_law_880 (by decide) (fun h8 => ?_) (fun h8 => absurd (lcmp_same (ho h9)) h8)
    refine lv_goto (tgt := 2053) hx hb dL_law_885 (by decide) ?_
    refine W.widen (k := cells + 3) (n := slots + 18) (by omega) (by omega) ?_
    exact hk _ _ _ _ _ _ hRN hW (lv_sub hl [2, 3, 4, 5, 6] rfl)
theorem lk_L_143 : LkV RL 143 yX9_car cX9_car 8 (some .int) 4 := ⟨(bigm (inT6 (List.mem_of_getElem? (i := 81) rfl)) rfl), km_X9_car_inst, km_X9_car_sel, ki_X9, km_X9_car_code, by decide +kernel, by decide +kernel, by decide +kernel⟩
set_option maxHeartbeats 4000000 in
set_option maxRecDepth 100000 in
theorem lc_car (hl0 : l.stackTraces = false) (A : LA X B p s m meth c b L xs) {R : CS → MS → Prop} (hS : H_car R) {n : Nat} (hn : n + 6 ≤ L) (hR : R cs ms) (hc : cells + 3 ≤ 601024) (hsl : slots + 18 ≤ 7293034) (hW : Ws X B s.heap H locs (cs, ms, o)) (hl : lv_has ls 7 (LLs X b n)) (hk : ∀ (cs' : CS) (ms' : MS) (o' : Nat → Int64) (H' : Heap) (locs' : List Loc) (ls' : Array Slot), R cs' ms' → Ws X B s.heap H' locs' (cs', ms', o') → lv_has ls' 7 (LLs X b n) → W p l e room_1 s m #[Value.ref b] below meth c H' locs' (cells + 3) (slots + 18) Q (F0 m 2053 ls' [])) : W p l e room_1 s m #[Value.ref b] below meth c H locs cells slots Q (F0 m 888 ls []) := by
  obtain ⟨E, hX, hbl, hB, hL⟩ := A
  obtain ⟨hx, hb, hml, hown, hts, -⟩ := id E
  have hbA : ¬ Ab B b := fun q => absurd (show B ≤ b from q) (by omega)
  replace hl : lv_has ls 7 [(0, .ref b), (1, .ref (X.1 0)), (2, .ref (X.1 7)), (3, .ref (X.1 72)), (4, .int (nI n))] := hl
  obtain ⟨rb, ms9, hf9, Z, hf8, hE8, hK8⟩ := hS cs ms (xs (nI n + (1 : Int32)).toNatClampNeg) (xs (nI n + (2 : Int32)).toNatClampNeg) (xs (nI n + (3 : Int32)).toNatClampNeg) (xs (nI n + (4 : Int32)).toNatClampNeg) hR
  have hcd9 : ∀ E, E ∈ (["java/lang/IllegalArgumentException"] : List String) → cd1 E ≠ 0 := by simp [cd1, cd2]
  refine lv_aload_n hx hb dL_law_888 rfl (lv_at hl 1 rfl) ?_
  refine lv_aload_n hx hb dL_law_889 rfl (lv_at hl 0 rfl) ?_
  refine lv_iload hx hb dL_law_890 (lv_at hl 4 rfl) ?_
  refine lv_iconst (v := (1 : Int32)) hx hb dL_law_892 (by decide) ?_
  refine lv_iadd hx hb dL_law_893 ?_
  refine va_sld hx hb hX hbl hbA hW.2.2 (sc_in 1 (by decide) hn hL) dL_law_894 ?_
  refine lv_aload_n hx hb dL_law_895 rfl (lv_at hl 0 rfl) ?_
  refine lv_iload hx hb dL_law_896 (lv_at hl 4 rfl) ?_
  refine lv_iconst (v := (2 : Int32)) hx hb dL_law_898 (by decide) ?_
  refine lv_iadd hx hb dL_law_899 ?_
  refine va_sld hx hb hX hbl hbA hW.2.2 (sc_in 2 (by decide) hn hL) dL_law_900 ?_
  refine lv_aload_n hx hb dL_law_901 rfl (lv_at hl 0 rfl) ?_
  refine lv_iload hx hb dL_law_902 (lv_at hl 4 rfl) ?_
  refine lv_iconst (v := (3 : Int32)) hx hb dL_law_904 (by decide) ?_
  refine lv_iadd hx hb dL_law_905 ?_
  refine va_sld hx hb hX hbl hbA hW.2.2 (sc_in 3 (by decide) hn hL) dL_law_906 ?_
  refine lv_aload_n hx hb dL_law_907 rfl (lv_at hl 0 rfl) ?_
  refine lv_iload hx hb dL_law_908 (lv_at hl 4 rfl) ?_
  refine lv_iconst (v := (4 : Int32)) hx hb dL_law_910 (by decide) ?_
  refine lv_iadd hx hb dL_law_911 ?_
  refine va_sld hx hb hX hbl hbA hW.2.2 (sc_in 4 (by decide) hn hL) dL_law_912 ?_
  refine lv_aload_n hx hb dL_law_913 rfl (lv_at hl 3 rfl) ?_
  refine callW (As := [.ref _, .int _, .int _, .int _, .int _, .ref _]) (rest := []) E hW (c_L_car l (G := (fun (x : Int32 ⊕ String) (u : TS) => Agr cd1 ["java/lang/IllegalArgumentException"] R rb ms9 x u.1 ∧ u.2.1 = ms)) (c_X8_car l hl0 (G := (fun (x : Int32 ⊕ String) (u : TS) => Agr cd1 ["java/lang/IllegalArgumentException"] R rb ms9 x u.1 ∧ u.2.1 = ms)) hf8 (fun r S9 hz => ⟨hE8 r S9 hz, rfl⟩) (fun x0 x1 x2 x3 x4 x5 S1 hz q hq => by
    obtain ⟨r, S9, h1, h2⟩ := hK8 x0 x1 x2 x3 x4 x5 S1 hz q hq
    exact ⟨r, S9, h1, h2, rfl⟩)) (fun E9 t9 h9 => by
    have h8 := (((fun x t h => h) : ∀ (x : Int32 ⊕ String) (t : TS), (fun (x : Int32 ⊕ String) (u : TS) => Agr cd1 ["java/lang/IllegalArgumentException"] R rb ms9 x u.1 ∧ u.2.1 = ms) x t → Agr cd1 ["java/lang/IllegalArgumentException"] R rb ms9 x t.1 ∧ t.2.1 = ms) _ _ h9).1.2.2.1 E9 rfl
    simpa using h8)) lw_L_141 (Nat.le_of_ble_eq_true rfl) (Nat.le_of_ble_eq_true rfl) (by show _ ≤ 601024; omega) (by show _ ≤ 7293034; omega) hl.1 (Nat.le_of_ble_eq_true rfl) dL_law_914 (fun k9 u9 hP H locs hW => ?_)
  obtain ⟨csN, oN, rfl, hkk, ho, hRN⟩ := lpost_out hP hcd9 (fun x t h => h)
  refine lv_istore (lv' := [_, _, _, _, _, _]) hx hb dL_law_917 hl (by decide) rfl (fun ls hl => ?_)
  refine lv_aload_n hx hb dL_law_919 rfl (lv_at hl 3 rfl) ?_
  refine lv_aload_n hx hb dL_law_920 rfl (lv_at hl 1 rfl) ?_
  refine lv_iload hx hb dL_law_921 (lv_at hl 5 rfl) ?_
  refine lv_iconst (v := (1 : Int32)) hx hb dL_law_923 (by decide) ?_
  refine lv_iadd hx hb dL_law_924 ?_
  refine va_sld hx hb hX hbl hbA hW.2.2 (sc_in 1 (by decide) hn hL) dL_law_925 ?_
  refine lv_aload_n hx hb dL_law_926 rfl (lv_at hl 1 rfl) ?_
  refine lv_iload hx hb dL_law_927 (lv_at hl 5 rfl) ?_
  refine lv_iconst (v := (2 : Int32)) hx hb dL_law_929 (by decide) ?_
  refine lv_iadd hx hb dL_law_930 ?_
  refine va_sld hx hb hX hbl hbA hW.2.2 (sc_in 2 (by decide) hn hL) dL_law_931 ?_
  refine lv_aload_n hx hb dL_law_932 rfl (lv_at hl 1 rfl) ?_
  refine lv_iload hx hb dL_law_933 (lv_at hl 5 rfl) ?_
  refine lv_iconst (v := (3 : Int32)) hx hb dL_law_935 (by decide) ?_
  refine lv_iadd hx hb dL_law_936 ?_
  refine va_sld hx hb hX hbl hbA hW.2.2 (sc_in 3 (by decide) hn hL) dL_law_937 ?_
  refine lv_aload_n hx hb dL_law_938 rfl (lv_at hl 1 rfl) ?_
  refine lv_iload hx hb dL_law_939 (lv_at hl 5 rfl) ?_
  refine lv_iconst (v := (4 : Int32)) hx hb dL_law_941 (by decide) ?_
  refine lv_iadd hx hb dL_law_942 ?_
  refine va_sld hx hb hX hbl hbA hW.2.2 (sc_in 4 (by decide) hn hL) dL_law_943 ?_
  refine callVI (As := [.int _, .int _, .int _, .int _]) (rest := []) E hW (c_X9_car l hf9) lk_L_143 rcv_X9 (Nat.le_of_ble_eq_true rfl) (Nat.le_of_ble_eq_true rfl) (by show _ ≤ 601024; omega) (by show _ ≤ 7293034; omega) hl.1 (Nat.le_of_ble_eq_true rfl) dL_law_944 (fun H locs hW => ?_)
  refine lv_istore (lv' := [_, _, _, _, _, _, _]) hx hb dL_law_947 hl (by decide) rfl (fun ls hl => ?_)
  refine lv_aload_n hx hb dL_law_949 rfl (lv_at hl 4 rfl) ?_
  refine callVI (As := []) (rest := []) E hW (c_X9_thrown l rfl) lk_L_105 rcv_X9 (Nat.le_of_ble_eq_true rfl) (Nat.le_of_ble_eq_true rfl) (by show _ ≤ 601024; omega) (by show _ ≤ 7293034; omega) hl.1 (Nat.le_of_ble_eq_true rfl) dL_law_950 (fun H locs hW => ?_)
  refine lv_iload hx hb dL_law_953 (lv_at hl 1 rfl) ?_
  refine lv_icmp_eq (tgt := 960) hx hb dL_law_955 (by decide) (fun h9 => ?_) (fun h9 => absurd (by first | exact hkk | exact hkk.symm) h9)
  refine lv_iload hx hb dL_law_960 (lv_at hl 1 rfl) ?_
  refine lv_if_ne (tgt := 977) hx hb dL_law_962 (by decide) (fun h9 => ?_) (fun h9 => ?_)
  · refine lv_goto (tgt := 2053) hx hb dL_law_977 (by decide) ?_
    refine W.widen (k := cells + 3) (n := slots + 18) (by omega) (by omega) ?_
    exact hk _ _ _ _ _ _ hRN hW (lv_sub hl [2, 3, 4, 5, 6] rfl)
  · refine lv_aload_n hx hb dL_law_965 rfl (lv_at hl 5 rfl) ?_
    refine lv_iconst (v := (0 : Int32)) hx hb dL_law_966 (by decide) ?_
    refine ra_72 E hW (vp_in_nI (n := 0) (Nat.le_of_ble_eq_true rfl) (Nat.le_of_ble_eq_true rfl)) dL_law_967 ?_
    refine lv_iload hx hb dL_law_968 (lv_at hl 0 rfl) ?_
    refine lv_i2l hx hb dL_law_970 rfl ?_
    refine W.lcmp hx hb dL_law_971 ?_
    refine lv_if_eq (tgt := 977) hx hb dL_law_972 (by decide) (fun h8 => ?_) (fun h8 => absurd (lcmp_same (ho h9)) h8)
    refine lv_goto (tgt := 2053) hx hb dL_law_977 (by decide) ?_
    refine W.widen (k := cells + 3) (n := slots + 18) (by omega) (by omega) ?_
    exact hk _ _ _ _ _ _ hRN hW (lv_sub hl [2, 3, 4, 5, 6] rfl)
theorem lk_L_146 : LkV RL 146 yX9_about cX9_about 3 (some .int) 2 := ⟨(bigm (inT6 (List.mem_of_getElem? (i := 89) rfl)) rfl), km_X9_about_inst, km_X9_about_sel, ki_X9, km_X9_about_code, by decide +kernel, by decide +kernel, by decide +kernel⟩
set_option maxHeartbeats 4000000 in
set_option maxRecDepth 100000 in
theorem lc_about (hl0 : l.stackTraces = false) (A : LA X B p s m meth c b L xs) {R : CS → MS → Prop} (hS : H_about R) {n : Nat} (hn : n + 6 ≤ L) (hR : R cs ms) (hc : cells + 3 ≤ 601024) (hsl : slots + 18 ≤ 7293034) (hW : Ws X B s.heap H locs (cs, ms, o)) (hl : lv_has ls 7 (LLs X b n)) (hk : ∀ (cs' : CS) (ms' : MS) (o' : Nat → Int64) (H' : Heap) (locs' : List Loc) (ls' : Array Slot), R cs' ms' → Ws X B s.heap H' locs' (cs', ms', o') → lv_has ls' 7 (LLs X b n) → W p l e room_1 s m #[Value.ref b] below meth c H' locs' (cells + 3) (slots + 18) Q (F0 m 2053 ls' [])) : W p l e room_1 s m #[Value.ref b] below meth c H locs cells slots Q (F0 m 980 ls []) := by
  obtain ⟨E, hX, hbl, hB, hL⟩ := A
  obtain ⟨hx, hb, hml, hown, hts, -⟩ := id E
  have hbA : ¬ Ab B b := fun q => absurd (show B ≤ b from q) (by omega)
  replace hl : lv_has ls 7 [(0, .ref b), (1, .ref (X.1 0)), (2, .ref (X.1 7)), (3, .ref (X.1 72)), (4, .int (nI n))] := hl
  obtain ⟨rb, ms9, hf9, r8, cs9, hf8, hA8⟩ := hS cs ms (xs (nI n + (1 : Int32)).toNatClampNeg) (xs (nI n + (2 : Int32)).toNatClampNeg) hR
  have hcd9 : ∀ E, E ∈ (["java/util/NoSuchElementException", "java/lang/IllegalArgumentException"] : List String) → (cd2 "java/util/NoSuchElementException") E ≠ 0 := by simp [cd1, cd2]
  refine lv_aload_n hx hb dL_law_980 rfl (lv_at hl 1 rfl) ?_
  refine lv_aload_n hx hb dL_law_981 rfl (lv_at hl 0 rfl) ?_
  refine lv_iload hx hb dL_law_982 (lv_at hl 4 rfl) ?_
  refine lv_iconst (v := (1 : Int32)) hx hb dL_law_984 (by decide) ?_
  refine lv_iadd hx hb dL_law_985 ?_
  refine va_sld hx hb hX hbl hbA hW.2.2 (sc_in 1 (by decide) hn hL) dL_law_986 ?_
  refine lv_aload_n hx hb dL_law_987 rfl (lv_at hl 0 rfl) ?_
  refine lv_iload hx hb dL_law_988 (lv_at hl 4 rfl) ?_
  refine lv_iconst (v := (2 : Int32)) hx hb dL_law_990 (by decide) ?_
  refine lv_iadd hx hb dL_law_991 ?_
  refine va_sld hx hb hX hbl hbA hW.2.2 (sc_in 2 (by decide) hn hL) dL_law_992 ?_
  refine lv_aload_n hx hb dL_law_993 rfl (lv_at hl 3 rfl) ?_
  refine callW (As := [.ref _, .int _, .int _, .ref _]) (rest := []) E hW (c_L_about l (G := (fun (x : Int32 ⊕ String) (u : TS) => r8 = x ∧ u = (cs9, ms, o))) (c_X8_about l hl0 hf8) (fun E9 t9 h9 => by
    have h8 := (((fun x t h => by obtain ⟨rfl, rfl⟩ := h; exact ⟨hA8, rfl⟩) : ∀ (x : Int32 ⊕ String) (t : TS), (fun (x : Int32 ⊕ String) (u : TS) => r8 = x ∧ u = (cs9, ms, o)) x t → Agr (cd2 "java/util/NoSuchElementException") ["java/util/NoSuchElementException", "java/lang/IllegalArgumentException"] R rb ms9 x t.1 ∧ t.2.1 = ms) _ _ h9).1.2.2.1 E9 rfl
    simpa using h8)) lw_L_144 (Nat.le_of_ble_eq_true rfl) (Nat.le_of_ble_eq_true rfl) (by show _ ≤ 601024; omega) (by show _ ≤ 7293034; omega) hl.1 (Nat.le_of_ble_eq_true rfl) dL_law_994 (fun k9 u9 hP H locs hW => ?_)
  obtain ⟨csN, oN, rfl, hkk, ho, hRN⟩ := lpost_out hP hcd9 (fun x t h => by obtain ⟨rfl, rfl⟩ := h; exact ⟨hA8, rfl⟩)
  refine lv_istore (lv' := [_, _, _, _, _, _]) hx hb dL_law_997 hl (by decide) rfl (fun ls hl => ?_)
  refine lv_aload_n hx hb dL_law_999 rfl (lv_at hl 3 rfl) ?_
  refine lv_aload_n hx hb dL_law_1000 rfl (lv_at hl 1 rfl) ?_
  refine lv_iload hx hb dL_law_1001 (lv_at hl 5 rfl) ?_
  refine lv_iconst (v := (1 : Int32)) hx hb dL_law_1003 (by decide) ?_
  refine lv_iadd hx hb dL_law_1004 ?_
  refine va_sld hx hb hX hbl hbA hW.2.2 (sc_in 1 (by decide) hn hL) dL_law_1005 ?_
  refine lv_aload_n hx hb dL_law_1006 rfl (lv_at hl 1 rfl) ?_
  refine lv_iload hx hb dL_law_1007 (lv_at hl 5 rfl) ?_
  refine lv_iconst (v := (2 : Int32)) hx hb dL_law_1009 (by decide) ?_
  refine lv_iadd hx hb dL_law_1010 ?_
  refine va_sld hx hb hX hbl hbA hW.2.2 (sc_in 2 (by decide) hn hL) dL_law_1011 ?_
  refine callVI (As := [.int _, .int _]) (rest := []) E hW (c_X9_about l hf9) lk_L_146 rcv_X9 (Nat.le_of_ble_eq_true rfl) (Nat.le_of_ble_eq_true rfl) (by show _ ≤ 601024; omega) (by show _ ≤ 7293034; omega) hl.1 (Nat.le_of_ble_eq_true rfl) dL_law_1012 (fun H locs hW => ?_)
  refine lv_istore (lv' := [_, _, _, _, _, _, _]) hx hb dL_law_1015 hl (by decide) rfl (fun ls hl => ?_)
  refine lv_aload_n hx hb dL_law_1017 rfl (lv_at hl 4 rfl) ?_
  refine callVI (As := []) (rest := []) E hW (c_X9_thrown l rfl) lk_L_105 rcv_X9 (Nat.le_of_ble_eq_true rfl) (Nat.le_of_ble_eq_true rfl) (by show _ ≤ 601024; omega) (by show _ ≤ 7293034; omega) hl.1 (Nat.le_of_ble_eq_true rfl) dL_law_1018 (fun H locs hW => ?_)
  refine lv_iload hx hb dL_law_1021 (lv_at hl 1 rfl) ?_
  refine lv_icmp_eq (tgt := 1028) hx hb dL_law_1023 (by decide) (fun h9 => ?_) (fun h9 => absurd (by first | exact hkk | exact hkk.symm) h9)
  refine lv_iload hx hb dL_law_1028 (lv_at hl 1 rfl) ?_
  refine lv_if_ne (tgt := 1045) hx hb dL_law_1030 (by decide) (fun h9 => ?_) (fun h9 => ?_)
  · refine lv_goto (tgt := 2053) hx hb dL_law_1045 (by decide) ?_
    refine W.widen (k := cells + 3) (n := slots + 18) (by omega) (by omega) ?_
    exact hk _ _ _ _ _ _ hRN hW (lv_sub hl [2, 3, 4, 5, 6] rfl)
  · refine lv_aload_n hx hb dL_law_1033 rfl (lv_at hl 5 rfl) ?_
    refine lv_iconst (v := (0 : Int32)) hx hb dL_law_1034 (by decide) ?_
    refine ra_72 E hW (vp_in_nI (n := 0) (Nat.le_of_ble_eq_true rfl) (Nat.le_of_ble_eq_true rfl)) dL_law_1035 ?_
    refine lv_iload hx hb dL_law_1036 (lv_at hl 0 rfl) ?_
    refine lv_i2l hx hb dL_law_1038 rfl ?_
    refine W.lcmp hx hb dL_law_1039 ?_
    refine lv_if_eq (tgt := 1045) hx hb dL_law_1040 (by decide) (fun h8 => ?_) (fun h8 => absurd (lcmp_same (ho h9)) h8)
    refine lv_goto (tgt := 2053) hx hb dL_law_1045 (by decide) ?_
    refine W.widen (k := cells + 3) (n := slots + 18) (by omega) (by omega) ?_
    exact hk _ _ _ _ _ _ hRN hW (lv_sub hl [2, 3, 4, 5, 6] rfl)
theorem lk_L_149 : LkV RL 149 yX9_drain cX9_drain 2 (some .int) 1 := ⟨(bigm (inT6 (List.mem_of_getElem? (i := 97) rfl)) rfl), km_X9_drain_inst, km_X9_drain_sel, ki_X9, km_X9_drain_code, by decide +kernel, by decide +kernel, by decide +kernel⟩
set_option maxHeartbeats 4000000 in
set_option maxRecDepth 100000 in
theorem lc_drain (hl0 : l.stackTraces = false) (A : LA X B p s m meth c b L xs) {R : CS → MS → Prop} (hS : H_drain R) {n : Nat} (hn : n + 6 ≤ L) (hR : R cs ms) (hc : cells + 3 ≤ 601024) (hsl : slots + 18 ≤ 7293034) (hW : Ws X B s.heap H locs (cs, ms, o)) (hl : lv_has ls 7 (LLs X b n)) (hk : ∀ (cs' : CS) (ms' : MS) (o' : Nat → Int64) (H' : Heap) (locs' : List Loc) (ls' : Array Slot), R cs' ms' → Ws X B s.heap H' locs' (cs', ms', o') → lv_has ls' 7 (LLs X b n) → W p l e room_1 s m #[Value.ref b] below meth c H' locs' (cells + 3) (slots + 18) Q (F0 m 2053 ls' [])) : W p l e room_1 s m #[Value.ref b] below meth c H locs cells slots Q (F0 m 1048 ls []) := by
  obtain ⟨E, hX, hbl, hB, hL⟩ := A
  obtain ⟨hx, hb, hml, hown, hts, -⟩ := id E
  have hbA : ¬ Ab B b := fun q => absurd (show B ≤ b from q) (by omega)
  replace hl : lv_has ls 7 [(0, .ref b), (1, .ref (X.1 0)), (2, .ref (X.1 7)), (3, .ref (X.1 72)), (4, .int (nI n))] := hl
  obtain ⟨rb, ms9, hf9, r8, cs9, hf8, hA8⟩ := hS cs ms (xs (nI n + (1 : Int32)).toNatClampNeg) hR
  have hcd9 : ∀ E, E ∈ (["java/util/NoSuchElementException"] : List String) → cd1 E ≠ 0 := by simp [cd1, cd2]
  refine lv_aload_n hx hb dL_law_1048 rfl (lv_at hl 1 rfl) ?_
  refine lv_aload_n hx hb dL_law_1049 rfl (lv_at hl 0 rfl) ?_
  refine lv_iload hx hb dL_law_1050 (lv_at hl 4 rfl) ?_
  refine lv_iconst (v := (1 : Int32)) hx hb dL_law_1052 (by decide) ?_
  refine lv_iadd hx hb dL_law_1053 ?_
  refine va_sld hx hb hX hbl hbA hW.2.2 (sc_in 1 (by decide) hn hL) dL_law_1054 ?_
  refine lv_aload_n hx hb dL_law_1055 rfl (lv_at hl 3 rfl) ?_
  refine callW (As := [.ref _, .int _, .ref _]) (rest := []) E hW (c_L_drain l (G := (fun (x : Int32 ⊕ String) (u : TS) => r8 = x ∧ u = (cs9, ms, o))) (c_X8_drain l hl0 hf8) (fun E9 t9 h9 => by
    have h8 := (((fun x t h => by obtain ⟨rfl, rfl⟩ := h; exact ⟨hA8, rfl⟩) : ∀ (x : Int32 ⊕ String) (t : TS), (fun (x : Int32 ⊕ String) (u : TS) => r8 = x ∧ u = (cs9, ms, o)) x t → Agr cd1 ["java/util/NoSuchElementException"] R rb ms9 x t.1 ∧ t.2.1 = ms) _ _ h9).1.2.2.1 E9 rfl
    simpa using h8)) lw_L_147 (Nat.le_of_ble_eq_true rfl) (Nat.le_of_ble_eq_true rfl) (by show _ ≤ 601024; omega) (by show _ ≤ 7293034; omega) hl.1 (Nat.le_of_ble_eq_true rfl) dL_law_1056 (fun k9 u9 hP H locs hW => ?_)
  obtain ⟨csN, oN, rfl, hkk, ho, hRN⟩ := lpost_out hP hcd9 (fun x t h => by obtain ⟨rfl, rfl⟩ := h; exact ⟨hA8, rfl⟩)
  refine lv_istore (lv' := [_, _, _, _, _, _]) hx hb dL_law_1059 hl (by decide) rfl (fun ls hl => ?_)
  refine lv_aload_n hx hb dL_law_1061 rfl (lv_at hl 3 rfl) ?_
  refine lv_aload_n hx hb dL_law_1062 rfl (lv_at hl 1 rfl) ?_
  refine lv_iload hx hb dL_law_1063 (lv_at hl 5 rfl) ?_
  refine lv_iconst (v := (1 : Int32)) hx hb dL_law_1065 (by decide) ?_
  refine lv_iadd hx hb dL_law_1066 ?_
  refine va_sld hx hb hX hbl hbA hW.2.2 (sc_in 1 (by decide) hn hL) dL_law_1067 ?_
  refine callVI (As := [.int _]) (rest := []) E hW (c_X9_drain l hf9) lk_L_149 rcv_X9 (Nat.le_of_ble_eq_true rfl) (Nat.le_of_ble_eq_true rfl) (by show _ ≤ 601024; omega) (by show _ ≤ 7293034; omega) hl.1 (Nat.le_of_ble_eq_true rfl) dL_law_1068 (fun H locs hW => ?_)
  refine lv_istore (lv' := [_, _, _, _, _, _, _]) hx hb dL_law_1071 hl (by decide) rfl (fun ls hl => ?_)
  refine lv_aload_n hx hb dL_law_1073 rfl (lv_at hl 4 rfl) ?_
  refine callVI (As := []) (rest := []) E hW (c_X9_thrown l rfl) lk_L_105 rcv_X9 (Nat.le_of_ble_eq_true rfl) (Nat.le_of_ble_eq_true rfl) (by show _ ≤ 601024; omega) (by show _ ≤ 7293034; omega) hl.1 (Nat.le_of_ble_eq_true rfl) dL_law_1074 (fun H locs hW => ?_)
  refine lv_iload hx hb dL_law_1077 (lv_at hl 1 rfl) ?_
  refine lv_icmp_eq (tgt := 1084) hx hb dL_law_1079 (by decide) (fun h9 => ?_) (fun h9 => absurd (by first | exact hkk | exact hkk.symm) h9)
  refine lv_iload hx hb dL_law_1084 (lv_at hl 1 rfl) ?_
  refine lv_if_ne (tgt := 1101) hx hb dL_law_1086 (by decide) (fun h9 => ?_) (fun h9 => ?_)
  · refine lv_goto (tgt := 2053) hx hb dL_law_1101 (by decide) ?_
    refine W.widen (k := cells + 3) (n := slots + 18) (by omega) (by omega) ?_
    exact hk _ _ _ _ _ _ hRN hW (lv_sub hl [2, 3, 4, 5, 6] rfl)
  · refine lv_aload_n hx hb dL_law_1089 rfl (lv_at hl 5 rfl) ?_
    refine lv_iconst (v := (0 : Int32)) hx hb dL_law_1090 (by decide) ?_
    refine ra_72 E hW (vp_in_nI (n := 0) (Nat.le_of_ble_eq_true rfl) (Nat.le_of_ble_eq_true rfl)) dL_law_1091 ?_
    refine lv_iload hx hb dL_law_1092 (lv_at hl 0 rfl) ?_
    refine lv_i2l hx hb dL_law_1094 rfl ?_
    refine W.lcmp hx hb dL_law_1095 ?_
    refine lv_if_eq (tgt := 1101) hx hb dL_law_1096 (by decide) (fun h8 => ?_) (fun h8 => absurd (lcmp_same (ho h9)) h8)
    refine lv_goto (tgt := 2053) hx hb dL_law_1101 (by decide) ?_
    refine W.widen (k := cells + 3) (n := slots + 18) (by omega) (by omega) ?_
    exact hk _ _ _ _ _ _ hRN hW (lv_sub hl [2, 3, 4, 5, 6] rfl)
theorem lk_L_152 : LkV RL 152 yX9_papers cX9_papers 2 (some .int) 1 := ⟨(bigm (inT6 (List.mem_of_getElem? (i := 105) rfl)) rfl), km_X9_papers_inst, km_X9_papers_sel, ki_X9, km_X9_papers_code, by decide +kernel, by decide +kernel, by decide +kernel⟩
set_option maxHeartbeats 4000000 in
set_option maxRecDepth 100000 in
theorem lc_papers (hl0 : l.stackTraces = false) (A : LA X B p s m meth c b L xs) {R : CS → MS → Prop} (hS : H_papers R) {n : Nat} (hn : n + 6 ≤ L) (hR : R cs ms) (hc : cells + 3 ≤ 601024) (hsl : slots + 18 ≤ 7293034) (hW : Ws X B s.heap H locs (cs, ms, o)) (hl : lv_has ls 7 (LLs X b n)) (hk : ∀ (cs' : CS) (ms' : MS) (o' : Nat → Int64) (H' : Heap) (locs' : List Loc) (ls' : Array Slot), R cs' ms' → Ws X B s.heap H' locs' (cs', ms', o') → lv_has ls' 7 (LLs X b n) → W p l e room_1 s m #[Value.ref b] below meth c H' locs' (cells + 3) (slots + 18) Q (F0 m 2053 ls' [])) : W p l e room_1 s m #[Value.ref b] below meth c H locs cells slots Q (F0 m 1104 ls []) := by
  obtain ⟨E, hX, hbl, hB, hL⟩ := A
  obtain ⟨hx, hb, hml, hown, hts, -⟩ := id E
  have hbA : ¬ Ab B b := fun q => absurd (show B ≤ b from q) (by omega)
  replace hl : lv_has ls 7 [(0, .ref b), (1, .ref (X.1 0)), (2, .ref (X.1 7)), (3, .ref (X.1 72)), (4, .int (nI n))] := hl
  obtain ⟨rb, ms9, hf9, r8, cs9, hf8, hA8⟩ := hS cs ms (xs (nI n + (1 : Int32)).toNatClampNeg) hR
  have hcd9 : ∀ E, E ∈ (["java/util/NoSuchElementException"] : List String) → cd1 E ≠ 0 := by simp [cd1, cd2]
  refine lv_aload_n hx hb dL_law_1104 rfl (lv_at hl 1 rfl) ?_
  refine lv_aload_n hx hb dL_law_1105 rfl (lv_at hl 0 rfl) ?_
  refine lv_iload hx hb dL_law_1106 (lv_at hl 4 rfl) ?_
  refine lv_iconst (v := (1 : Int32)) hx hb dL_law_1108 (by decide) ?_
  refine lv_iadd hx hb dL_law_1109 ?_
  refine va_sld hx hb hX hbl hbA hW.2.2 (sc_in 1 (by decide) hn hL) dL_law_1110 ?_
  refine lv_aload_n hx hb dL_law_1111 rfl (lv_at hl 3 rfl) ?_
  refine callW (As := [.ref _, .int _, .ref _]) (rest := []) E hW (c_L_papers l (G := (fun (x : Int32 ⊕ String) (u : TS) => r8 = x ∧ u = (cs9, ms, o))) (c_X8_papers l hl0 hf8) (fun E9 t9 h9 => by
    have h8 := (((fun x t h => by obtain ⟨rfl, rfl⟩ := h; exact ⟨hA8, rfl⟩) : ∀ (x : Int32 ⊕ String) (t : TS), (fun (x : Int32 ⊕ String) (u : TS) => r8 = x ∧ u = (cs9, ms, o)) x t → Agr cd1 ["java/util/NoSuchElementException"] R rb ms9 x t.1 ∧ t.2.1 = ms) _ _ h9).1.2.2.1 E9 rfl
    simpa using h8)) lw_L_150 (Nat.le_of_ble_eq_true rfl) (Nat.le_of_ble_eq_true rfl) (by show _ ≤ 601024; omega) (by show _ ≤ 7293034; omega) hl.1 (Nat.le_of_ble_eq_true rfl) dL_law_1112 (fun k9 u9 hP H locs hW => ?_)
  obtain ⟨csN, oN, rfl, hkk, ho, hRN⟩ := lpost_out hP hcd9 (fun x t h => by obtain ⟨rfl, rfl⟩ := h; exact ⟨hA8, rfl⟩)
  refine lv_istore (lv' := [_, _, _, _, _, _]) hx hb dL_law_1115 hl (by decide) rfl (fun ls hl => ?_)
  refine lv_aload_n hx hb dL_law_1117 rfl (lv_at hl 3 rfl) ?_
  refine lv_aload_n hx hb dL_law_1118 rfl (lv_at hl 1 rfl) ?_
  refine lv_iload hx hb dL_law_1119 (lv_at hl 5 rfl) ?_
  refine lv_iconst (v := (1 : Int32)) hx hb dL_law_1121 (by decide) ?_
  refine lv_iadd hx hb dL_law_1122 ?_
  refine va_sld hx hb hX hbl hbA hW.2.2 (sc_in 1 (by decide) hn hL) dL_law_1123 ?_
  refine callVI (As := [.int _]) (rest := []) E hW (c_X9_papers l hf9) lk_L_152 rcv_X9 (Nat.le_of_ble_eq_true rfl) (Nat.le_of_ble_eq_true rfl) (by show _ ≤ 601024; omega) (by show _ ≤ 7293034; omega) hl.1 (Nat.le_of_ble_eq_true rfl) dL_law_1124 (fun H locs hW => ?_)
  refine lv_istore (lv' := [_, _, _, _, _, _, _]) hx hb dL_law_1127 hl (by decide) rfl (fun ls hl => ?_)
  refine lv_aload_n hx hb dL_law_1129 rfl (lv_at hl 4 rfl) ?_
  refine callVI (As := []) (rest := []) E hW (c_X9_thrown l rfl) lk_L_105 rcv_X9 (Nat.le_of_ble_eq_true rfl) (Nat.le_of_ble_eq_true rfl) (by show _ ≤ 601024; omega) (by show _ ≤ 7293034; omega) hl.1 (Nat.le_of_ble_eq_true rfl) dL_law_1130 (fun H locs hW => ?_)
  refine lv_iload hx hb dL_law_1133 (lv_at hl 1 rfl) ?_
  refine lv_icmp_eq (tgt := 1140) hx hb dL_law_1135 (by decide) (fun h9 => ?_) (fun h9 => absurd (by first | exact hkk | exact hkk.symm) h9)
  refine lv_iload hx hb dL_law_1140 (lv_at hl 1 rfl) ?_
  refine lv_if_ne (tgt := 1157) hx hb dL_law_1142 (by decide) (fun h9 => ?_) (fun h9 => ?_)
  · refine lv_goto (tgt := 2053) hx hb dL_law_1157 (by decide) ?_
    refine W.widen (k := cells + 3) (n := slots + 18) (by omega) (by omega) ?_
    exact hk _ _ _ _ _ _ hRN hW (lv_sub hl [2, 3, 4, 5, 6] rfl)
  · refine lv_aload_n hx hb dL_law_1145 rfl (lv_at hl 5 rfl) ?_
    refine lv_iconst (v := (0 : Int32)) hx hb dL_law_1146 (by decide) ?_
    refine ra_72 E hW (vp_in_nI (n := 0) (Nat.le_of_ble_eq_true rfl) (Nat.le_of_ble_eq_true rfl)) dL_law_1147 ?_
    refine lv_iload hx hb dL_law_1148 (lv_at hl 0 rfl) ?_
    refine lv_i2l hx hb dL_law_1150 rfl ?_
    refine W.lcmp hx hb dL_law_1151 ?_
    refine lv_if_eq (tgt := 1157) hx hb dL_law_1152 (by decide) (fun h8 => ?_) (fun h8 => absurd (lcmp_same (ho h9)) h8)
    refine lv_goto (tgt := 2053) hx hb dL_law_1157 (by decide) ?_
    refine W.widen (k := cells + 3) (n := slots + 18) (by omega) (by omega) ?_
    exact hk _ _ _ _ _ _ hRN hW (lv_sub hl [2, 3, 4, 5, 6] rfl)
theorem lk_L_155 : LkV RL 155 yX9_hinders cX9_hinders 3 (some .int) 2 := ⟨(bigm (inT6 (List.mem_of_getElem? (i := 109) rfl)) rfl), km_X9_hinders_inst, km_X9_hinders_sel, ki_X9, km_X9_hinders_code, by decide +kernel, by decide +kernel, by decide +kernel⟩
set_option maxHeartbeats 4000000 in
set_option maxRecDepth 100000 in
theorem lc_hinders (hl0 : l.stackTraces = false) (A : LA X B p s m meth c b L xs) {R : CS → MS → Prop} (hS : H_hinders R) {n : Nat} (hn : n + 6 ≤ L) (hR : R cs ms) (hc : cells + 3 ≤ 601024) (hsl : slots + 18 ≤ 7293034) (hW : Ws X B s.heap H locs (cs, ms, o)) (hl : lv_has ls 7 (LLs X b n)) (hk : ∀ (cs' : CS) (ms' : MS) (o' : Nat → Int64) (H' : Heap) (locs' : List Loc) (ls' : Array Slot), R cs' ms' → Ws X B s.heap H' locs' (cs', ms', o') → lv_has ls' 7 (LLs X b n) → W p l e room_1 s m #[Value.ref b] below meth c H' locs' (cells + 3) (slots + 18) Q (F0 m 2053 ls' [])) : W p l e room_1 s m #[Value.ref b] below meth c H locs cells slots Q (F0 m 1160 ls []) := by
  obtain ⟨E, hX, hbl, hB, hL⟩ := A
  obtain ⟨hx, hb, hml, hown, hts, -⟩ := id E
  have hbA : ¬ Ab B b := fun q => absurd (show B ≤ b from q) (by omega)
  replace hl : lv_has ls 7 [(0, .ref b), (1, .ref (X.1 0)), (2, .ref (X.1 7)), (3, .ref (X.1 72)), (4, .int (nI n))] := hl
  obtain ⟨rb, ms9, hf9, r8, cs9, hf8, hA8⟩ := hS cs ms (xs (nI n + (1 : Int32)).toNatClampNeg) (xs (nI n + (2 : Int32)).toNatClampNeg) hR
  have hcd9 : ∀ E, E ∈ (["java/util/NoSuchElementException"] : List String) → cd1 E ≠ 0 := by simp [cd1, cd2]
  refine lv_aload_n hx hb dL_law_1160 rfl (lv_at hl 1 rfl) ?_
  refine lv_aload_n hx hb dL_law_1161 rfl (lv_at hl 0 rfl) ?_
  refine lv_iload hx hb dL_law_1162 (lv_at hl 4 rfl) ?_
  refine lv_iconst (v := (1 : Int32)) hx hb dL_law_1164 (by decide) ?_
  refine lv_iadd hx hb dL_law_1165 ?_
  refine va_sld hx hb hX hbl hbA hW.2.2 (sc_in 1 (by decide) hn hL) dL_law_1166 ?_
  refine lv_aload_n hx hb dL_law_1167 rfl (lv_at hl 0 rfl) ?_
  refine lv_iload hx hb dL_law_1168 (lv_at hl 4 rfl) ?_
  refine lv_iconst (v := (2 : Int32)) hx hb dL_law_1170 (by decide) ?_
  refine lv_iadd hx hb dL_law_1171 ?_
  refine va_sld hx hb hX hbl hbA hW.2.2 (sc_in 2 (by decide) hn hL) dL_law_1172 ?_
  refine lv_aload_n hx hb dL_law_1173 rfl (lv_at hl 3 rfl) ?_
  refine callW (As := [.ref _, .int _, .int _, .ref _]) (rest := []) E hW (c_L_hinders l (G := (fun (x : Int32 ⊕ String) (u : TS) => r8 = x ∧ u = (cs9, ms, o))) (c_X8_hinders l hl0 hf8) (fun E9 t9 h9 => by
    have h8 := (((fun x t h => by obtain ⟨rfl, rfl⟩ := h; exact ⟨hA8, rfl⟩) : ∀ (x : Int32 ⊕ String) (t : TS), (fun (x : Int32 ⊕ String) (u : TS) => r8 = x ∧ u = (cs9, ms, o)) x t → Agr cd1 ["java/util/NoSuchElementException"] R rb ms9 x t.1 ∧ t.2.1 = ms) _ _ h9).1.2.2.1 E9 rfl
    simpa using h8)) lw_L_153 (Nat.le_of_ble_eq_true rfl) (Nat.le_of_ble_eq_true rfl) (by show _ ≤ 601024; omega) (by show _ ≤ 7293034; omega) hl.1 (Nat.le_of_ble_eq_true rfl) dL_law_1174 (fun k9 u9 hP H locs hW => ?_)
  obtain ⟨csN, oN, rfl, hkk, ho, hRN⟩ := lpost_out hP hcd9 (fun x t h => by obtain ⟨rfl, rfl⟩ := h; exact ⟨hA8, rfl⟩)
  refine lv_istore (lv' := [_, _, _, _, _, _]) hx hb dL_law_1177 hl (by decide) rfl (fun ls hl => ?_)
  refine lv_aload_n hx hb dL_law_1179 rfl (lv_at hl 3 rfl) ?_
  refine lv_aload_n hx hb dL_law_1180 rfl (lv_at hl 1 rfl) ?_
  refine lv_iload hx hb dL_law_1181 (lv_at hl 5 rfl) ?_
  refine lv_iconst (v := (1 : Int32)) hx hb dL_law_1183 (by decide) ?_
  refine lv_iadd hx hb dL_law_1184 ?_
  refine va_sld hx hb hX hbl hbA hW.2.2 (sc_in 1 (by decide) hn hL) dL_law_1185 ?_
  refine lv_aload_n hx hb dL_law_1186 rfl (lv_at hl 1 rfl) ?_
  refine lv_iload hx hb dL_law_1187 (lv_at hl 5 rfl) ?_
  refine lv_iconst (v := (2 : Int32)) hx hb dL_law_1189 (by decide) ?_
  refine lv_iadd hx hb dL_law_1190 ?_
  refine va_sld hx hb hX hbl hbA hW.2.2 (sc_in 2 (by decide) hn hL) dL_law_1191 ?_
  refine callVI (As := [.int _, .int _]) (rest := []) E hW (c_X9_hinders l hf9) lk_L_155 rcv_X9 (Nat.le_of_ble_eq_true rfl) (Nat.le_of_ble_eq_true rfl) (by show _ ≤ 601024; omega) (by show _ ≤ 7293034; omega) hl.1 (Nat.le_of_ble_eq_true rfl) dL_law_1192 (fun H locs hW => ?_)
  refine lv_istore (lv' := [_, _, _, _, _, _, _]) hx hb dL_law_1195 hl (by decide) rfl (fun ls hl => ?_)
  refine lv_aload_n hx hb dL_law_1197 rfl (lv_at hl 4 rfl) ?_
  refine callVI (As := []) (rest := []) E hW (c_X9_thrown l rfl) lk_L_105 rcv_X9 (Nat.le_of_ble_eq_true rfl) (Nat.le_of_ble_eq_true rfl) (by show _ ≤ 601024; omega) (by show _ ≤ 7293034; omega) hl.1 (Nat.le_of_ble_eq_true rfl) dL_law_1198 (fun H locs hW => ?_)
  refine lv_iload hx hb dL_law_1201 (lv_at hl 1 rfl) ?_
  refine lv_icmp_eq (tgt := 1208) hx hb dL_law_1203 (by decide) (fun h9 => ?_) (fun h9 => absurd (by first | exact hkk | exact hkk.symm) h9)
  refine lv_iload hx hb dL_law_1208 (lv_at hl 1 rfl) ?_
  refine lv_if_ne (tgt := 1225) hx hb dL_law_1210 (by decide) (fun h9 => ?_) (fun h9 => ?_)
  · refine lv_goto (tgt := 2053) hx hb dL_law_1225 (by decide) ?_
    refine W.widen (k := cells + 3) (n := slots + 18) (by omega) (by omega) ?_
    exact hk _ _ _ _ _ _ hRN hW (lv_sub hl [2, 3, 4, 5, 6] rfl)
  · refine lv_aload_n hx hb dL_law_1213 rfl (lv_at hl 5 rfl) ?_
    refine lv_iconst (v := (0 : Int32)) hx hb dL_law_1214 (by decide) ?_
    refine ra_72 E hW (vp_in_nI (n := 0) (Nat.le_of_ble_eq_true rfl) (Nat.le_of_ble_eq_true rfl)) dL_law_1215 ?_
    refine lv_iload hx hb dL_law_1216 (lv_at hl 0 rfl) ?_
    refine lv_i2l hx hb dL_law_1218 rfl ?_
    refine W.lcmp hx hb dL_law_1219 ?_
    refine lv_if_eq (tgt := 1225) hx hb dL_law_1220 (by decide) (fun h8 => ?_) (fun h8 => absurd (lcmp_same (ho h9)) h8)
    refine lv_goto (tgt := 2053) hx hb dL_law_1225 (by decide) ?_
    refine W.widen (k := cells + 3) (n := slots + 18) (by omega) (by omega) ?_
    exact hk _ _ _ _ _ _ hRN hW (lv_sub hl [2, 3, 4, 5, 6] rfl)
theorem lk_L_158 : LkV RL 158 yX9_take cX9_take 5 (some .int) 2 := ⟨(bigm (inT6 (List.mem_of_getElem? (i := 121) rfl)) rfl), km_X9_take_inst, km_X9_take_sel, ki_X9, km_X9_take_code, by decide +kernel, by decide +kernel, by decide +kernel⟩
set_option maxHeartbeats 4000000 in
set_option maxRecDepth 100000 in
theorem lc_take (hl0 : l.stackTraces = false) (A : LA X B p s m meth c b L xs) {R : CS → MS → Prop} (hS : H_take R) {n : Nat} (hn : n + 6 ≤ L) (hR : R cs ms) (hc : cells + 3 ≤ 601024) (hsl : slots + 18 ≤ 7293034) (hW : Ws X B s.heap H locs (cs, ms, o)) (hl : lv_has ls 7 (LLs X b n)) (hk : ∀ (cs' : CS) (ms' : MS) (o' : Nat → Int64) (H' : Heap) (locs' : List Loc) (ls' : Array Slot), R cs' ms' → Ws X B s.heap H' locs' (cs', ms', o') → lv_has ls' 7 (LLs X b n) → W p l e room_1 s m #[Value.ref b] below meth c H' locs' (cells + 3) (slots + 18) Q (F0 m 2053 ls' [])) : W p l e room_1 s m #[Value.ref b] below meth c H locs cells slots Q (F0 m 1228 ls []) := by
  obtain ⟨E, hX, hbl, hB, hL⟩ := A
  obtain ⟨hx, hb, hml, hown, hts, -⟩ := id E
  have hbA : ¬ Ab B b := fun q => absurd (show B ≤ b from q) (by omega)
  replace hl : lv_has ls 7 [(0, .ref b), (1, .ref (X.1 0)), (2, .ref (X.1 7)), (3, .ref (X.1 72)), (4, .int (nI n))] := hl
  obtain ⟨rb, ms9, hf9, Z, hf8, hE8, hK8⟩ := hS cs ms (xs (nI n + (1 : Int32)).toNatClampNeg) (xs (nI n + (2 : Int32)).toNatClampNeg) hR
  have hcd9 : ∀ E, E ∈ (["java/util/NoSuchElementException"] : List String) → cd1 E ≠ 0 := by simp [cd1, cd2]
  refine lv_aload_n hx hb dL_law_1228 rfl (lv_at hl 1 rfl) ?_
  refine lv_aload_n hx hb dL_law_1229 rfl (lv_at hl 0 rfl) ?_
  refine lv_iload hx hb dL_law_1230 (lv_at hl 4 rfl) ?_
  refine lv_iconst (v := (1 : Int32)) hx hb dL_law_1232 (by decide) ?_
  refine lv_iadd hx hb dL_law_1233 ?_
  refine va_sld hx hb hX hbl hbA hW.2.2 (sc_in 1 (by decide) hn hL) dL_law_1234 ?_
  refine lv_aload_n hx hb dL_law_1235 rfl (lv_at hl 0 rfl) ?_
  refine lv_iload hx hb dL_law_1236 (lv_at hl 4 rfl) ?_
  refine lv_iconst (v := (2 : Int32)) hx hb dL_law_1238 (by decide) ?_
  refine lv_iadd hx hb dL_law_1239 ?_
  refine va_sld hx hb hX hbl hbA hW.2.2 (sc_in 2 (by decide) hn hL) dL_law_1240 ?_
  refine lv_aload_n hx hb dL_law_1241 rfl (lv_at hl 3 rfl) ?_
  refine callW (As := [.ref _, .int _, .int _, .ref _]) (rest := []) E hW (c_L_take l (G := (fun (x : Int32 ⊕ String) (u : TS) => Agr cd1 ["java/util/NoSuchElementException"] R rb ms9 x u.1 ∧ u.2.1 = ms)) (c_X8_take l hl0 (G := (fun (x : Int32 ⊕ String) (u : TS) => Agr cd1 ["java/util/NoSuchElementException"] R rb ms9 x u.1 ∧ u.2.1 = ms)) hf8 (fun r S9 hz => ⟨hE8 r S9 hz, rfl⟩) (fun x0 x1 x2 S1 hz q hq => by
    obtain ⟨r, S9, h1, h2⟩ := hK8 x0 x1 x2 S1 hz q hq
    exact ⟨r, S9, h1, h2, rfl⟩)) (fun E9 t9 h9 => by
    have h8 := (((fun x t h => h) : ∀ (x : Int32 ⊕ String) (t : TS), (fun (x : Int32 ⊕ String) (u : TS) => Agr cd1 ["java/util/NoSuchElementException"] R rb ms9 x u.1 ∧ u.2.1 = ms) x t → Agr cd1 ["java/util/NoSuchElementException"] R rb ms9 x t.1 ∧ t.2.1 = ms) _ _ h9).1.2.2.1 E9 rfl
    simpa using h8)) lw_L_156 (Nat.le_of_ble_eq_true rfl) (Nat.le_of_ble_eq_true rfl) (by show _ ≤ 601024; omega) (by show _ ≤ 7293034; omega) hl.1 (Nat.le_of_ble_eq_true rfl) dL_law_1242 (fun k9 u9 hP H locs hW => ?_)
  obtain ⟨csN, oN, rfl, hkk, ho, hRN⟩ := lpost_out hP hcd9 (fun x t h => h)
  refine lv_istore (lv' := [_, _, _, _, _, _]) hx hb dL_law_1245 hl (by decide) rfl (fun ls hl => ?_)
  refine lv_aload_n hx hb dL_law_1247 rfl (lv_at hl 3 rfl) ?_
  refine lv_aload_n hx hb dL_law_1248 rfl (lv_at hl 1 rfl) ?_
  refine lv_iload hx hb dL_law_1249 (lv_at hl 5 rfl) ?_
  refine lv_iconst (v := (1 : Int32)) hx hb dL_law_1251 (by decide) ?_
  refine lv_iadd hx hb dL_law_1252 ?_
  refine va_sld hx hb hX hbl hbA hW.2.2 (sc_in 1 (by decide) hn hL) dL_law_1253 ?_
  refine lv_aload_n hx hb dL_law_1254 rfl (lv_at hl 1 rfl) ?_
  refine lv_iload hx hb dL_law_1255 (lv_at hl 5 rfl) ?_
  refine lv_iconst (v := (2 : Int32)) hx hb dL_law_1257 (by decide) ?_
  refine lv_iadd hx hb dL_law_1258 ?_
  refine va_sld hx hb hX hbl hbA hW.2.2 (sc_in 2 (by decide) hn hL) dL_law_1259 ?_
  refine callVI (As := [.int _, .int _]) (rest := []) E hW (c_X9_take l hf9) lk_L_158 rcv_X9 (Nat.le_of_ble_eq_true rfl) (Nat.le_of_ble_eq_true rfl) (by show _ ≤ 601024; omega) (by show _ ≤ 7293034; omega) hl.1 (Nat.le_of_ble_eq_true rfl) dL_law_1260 (fun H locs hW => ?_)
  refine lv_istore (lv' := [_, _, _, _, _, _, _]) hx hb dL_law_1263 hl (by decide) rfl (fun ls hl => ?_)
  refine lv_aload_n hx hb dL_law_1265 rfl (lv_at hl 4 rfl) ?_
  refine callVI (As := []) (rest := []) E hW (c_X9_thrown l rfl) lk_L_105 rcv_X9 (Nat.le_of_ble_eq_true rfl) (Nat.le_of_ble_eq_true rfl) (by show _ ≤ 601024; omega) (by show _ ≤ 7293034; omega) hl.1 (Nat.le_of_ble_eq_true rfl) dL_law_1266 (fun H locs hW => ?_)
  refine lv_iload hx hb dL_law_1269 (lv_at hl 1 rfl) ?_
  refine lv_icmp_eq (tgt := 1276) hx hb dL_law_1271 (by decide) (fun h9 => ?_) (fun h9 => absurd (by first | exact hkk | exact hkk.symm) h9)
  refine lv_iload hx hb dL_law_1276 (lv_at hl 1 rfl) ?_
  refine lv_if_ne (tgt := 1293) hx hb dL_law_1278 (by decide) (fun h9 => ?_) (fun h9 => ?_)
  · refine lv_goto (tgt := 2053) hx hb dL_law_1293 (by decide) ?_
    refine W.widen (k := cells + 3) (n := slots + 18) (by omega) (by omega) ?_
    exact hk _ _ _ _ _ _ hRN hW (lv_sub hl [2, 3, 4, 5, 6] rfl)
  · refine lv_aload_n hx hb dL_law_1281 rfl (lv_at hl 5 rfl) ?_
    refine lv_iconst (v := (0 : Int32)) hx hb dL_law_1282 (by decide) ?_
    refine ra_72 E hW (vp_in_nI (n := 0) (Nat.le_of_ble_eq_true rfl) (Nat.le_of_ble_eq_true rfl)) dL_law_1283 ?_
    refine lv_iload hx hb dL_law_1284 (lv_at hl 0 rfl) ?_
    refine lv_i2l hx hb dL_law_1286 rfl ?_
    refine W.lcmp hx hb dL_law_1287 ?_
    refine lv_if_eq (tgt := 1293) hx hb dL_law_1288 (by decide) (fun h8 => ?_) (fun h8 => absurd (lcmp_same (ho h9)) h8)
    refine lv_goto (tgt := 2053) hx hb dL_law_1293 (by decide) ?_
    refine W.widen (k := cells + 3) (n := slots + 18) (by omega) (by omega) ?_
    exact hk _ _ _ _ _ _ hRN hW (lv_sub hl [2, 3, 4, 5, 6] rfl)
theorem lk_L_161 : LkV RL 161 yX9_press cX9_press 5 (some .int) 1 := ⟨(bigm (inT6 (List.mem_of_getElem? (i := 125) rfl)) rfl), km_X9_press_inst, km_X9_press_sel, ki_X9, km_X9_press_code, by decide +kernel, by decide +kernel, by decide +kernel⟩
set_option maxHeartbeats 4000000 in
set_option maxRecDepth 100000 in
theorem lc_press (hl0 : l.stackTraces = false) (A : LA X B p s m meth c b L xs) {R : CS → MS → Prop} (hS : H_press R) {n : Nat} (hn : n + 6 ≤ L) (hR : R cs ms) (hc : cells + 3 ≤ 601024) (hsl : slots + 18 ≤ 7293034) (hW : Ws X B s.heap H locs (cs, ms, o)) (hl : lv_has ls 7 (LLs X b n)) (hk : ∀ (cs' : CS) (ms' : MS) (o' : Nat → Int64) (H' : Heap) (locs' : List Loc) (ls' : Array Slot), R cs' ms' → Ws X B s.heap H' locs' (cs', ms', o') → lv_has ls' 7 (LLs X b n) → W p l e room_1 s m #[Value.ref b] below meth c H' locs' (cells + 3) (slots + 18) Q (F0 m 2053 ls' [])) : W p l e room_1 s m #[Value.ref b] below meth c H locs cells slots Q (F0 m 1296 ls []) := by
  obtain ⟨E, hX, hbl, hB, hL⟩ := A
  obtain ⟨hx, hb, hml, hown, hts, -⟩ := id E
  have hbA : ¬ Ab B b := fun q => absurd (show B ≤ b from q) (by omega)
  replace hl : lv_has ls 7 [(0, .ref b), (1, .ref (X.1 0)), (2, .ref (X.1 7)), (3, .ref (X.1 72)), (4, .int (nI n))] := hl
  obtain ⟨rb, ms9, hf9, r8, cs9, hf8, hA8⟩ := hS cs ms (xs (nI n + (1 : Int32)).toNatClampNeg) hR
  have hcd9 : ∀ E, E ∈ (["java/util/NoSuchElementException"] : List String) → cd1 E ≠ 0 := by simp [cd1, cd2]
  refine lv_aload_n hx hb dL_law_1296 rfl (lv_at hl 1 rfl) ?_
  refine lv_aload_n hx hb dL_law_1297 rfl (lv_at hl 0 rfl) ?_
  refine lv_iload hx hb dL_law_1298 (lv_at hl 4 rfl) ?_
  refine lv_iconst (v := (1 : Int32)) hx hb dL_law_1300 (by decide) ?_
  refine lv_iadd hx hb dL_law_1301 ?_
  refine va_sld hx hb hX hbl hbA hW.2.2 (sc_in 1 (by decide) hn hL) dL_law_1302 ?_
  refine lv_aload_n hx hb dL_law_1303 rfl (lv_at hl 3 rfl) ?_
  refine callW (As := [.ref _, .int _, .ref _]) (rest := []) E hW (c_L_press l (G := (fun (x : Int32 ⊕ String) (u : TS) => r8 = x ∧ u = (cs9, ms, o))) (c_X8_press l hl0 hf8) (fun E9 t9 h9 => by
    have h8 := (((fun x t h => by obtain ⟨rfl, rfl⟩ := h; exact ⟨hA8, rfl⟩) : ∀ (x : Int32 ⊕ String) (t : TS), (fun (x : Int32 ⊕ String) (u : TS) => r8 = x ∧ u = (cs9, ms, o)) x t → Agr cd1 ["java/util/NoSuchElementException"] R rb ms9 x t.1 ∧ t.2.1 = ms) _ _ h9).1.2.2.1 E9 rfl
    simpa using h8)) lw_L_159 (Nat.le_of_ble_eq_true rfl) (Nat.le_of_ble_eq_true rfl) (by show _ ≤ 601024; omega) (by show _ ≤ 7293034; omega) hl.1 (Nat.le_of_ble_eq_true rfl) dL_law_1304 (fun k9 u9 hP H locs hW => ?_)
  obtain ⟨csN, oN, rfl, hkk, ho, hRN⟩ := lpost_out hP hcd9 (fun x t h => by obtain ⟨rfl, rfl⟩ := h; exact ⟨hA8, rfl⟩)
  refine lv_istore (lv' := [_, _, _, _, _, _]) hx hb dL_law_1307 hl (by decide) rfl (fun ls hl => ?_)
  refine lv_aload_n hx hb dL_law_1309 rfl (lv_at hl 3 rfl) ?_
  refine lv_aload_n hx hb dL_law_1310 rfl (lv_at hl 1 rfl) ?_
  refine lv_iload hx hb dL_law_1311 (lv_at hl 5 rfl) ?_
  refine lv_iconst (v := (1 : Int32)) hx hb dL_law_1313 (by decide) ?_
  refine lv_iadd hx hb dL_law_1314 ?_
  refine va_sld hx hb hX hbl hbA hW.2.2 (sc_in 1 (by decide) hn hL) dL_law_1315 ?_
  refine callVI (As := [.int _]) (rest := []) E hW (c_X9_press l hf9) lk_L_161 rcv_X9 (Nat.le_of_ble_eq_true rfl) (Nat.le_of_ble_eq_true rfl) (by show _ ≤ 601024; omega) (by show _ ≤ 7293034; omega) hl.1 (Nat.le_of_ble_eq_true rfl) dL_law_1316 (fun H locs hW => ?_)
  refine lv_istore (lv' := [_, _, _, _, _, _, _]) hx hb dL_law_1319 hl (by decide) rfl (fun ls hl => ?_)
  refine lv_aload_n hx hb dL_law_1321 rfl (lv_at hl 4 rfl) ?_
  refine callVI (As := []) (rest := []) E hW (c_X9_thrown l rfl) lk_L_105 rcv_X9 (Nat.le_of_ble_eq_true rfl) (Nat.le_of_ble_eq_true rfl) (by show _ ≤ 601024; omega) (by show _ ≤ 7293034; omega) hl.1 (Nat.le_of_ble_eq_true rfl) dL_law_1322 (fun H locs hW => ?_)
  refine lv_iload hx hb dL_law_1325 (lv_at hl 1 rfl) ?_
  refine lv_icmp_eq (tgt := 1332) hx hb dL_law_1327 (by decide) (fun h9 => ?_) (fun h9 => absurd (by first | exact hkk | exact hkk.symm) h9)
  refine lv_iload hx hb dL_law_1332 (lv_at hl 1 rfl) ?_
  refine lv_if_ne (tgt := 1349) hx hb dL_law_1334 (by decide) (fun h9 => ?_) (fun h9 => ?_)
  · refine lv_goto (tgt := 2053) hx hb dL_law_1349 (by decide) ?_
    refine W.widen (k := cells + 3) (n := slots + 18) (by omega) (by omega) ?_
    exact hk _ _ _ _ _ _ hRN hW (lv_sub hl [2, 3, 4, 5, 6] rfl)
  · refine lv_aload_n hx hb dL_law_1337 rfl (lv_at hl 5 rfl) ?_
    refine lv_iconst (v := (0 : Int32)) hx hb dL_law_1338 (by decide) ?_
    refine ra_72 E hW (vp_in_nI (n := 0) (Nat.le_of_ble_eq_true rfl) (Nat.le_of_ble_eq_true rfl)) dL_law_1339 ?_
    refine lv_iload hx hb dL_law_1340 (lv_at hl 0 rfl) ?_
    refine lv_i2l hx hb dL_law_1342 rfl ?_
    refine W.lcmp hx hb dL_law_1343 ?_
    refine lv_if_eq (tgt := 1349) hx hb dL_law_1344 (by decide) (fun h8 => ?_) (fun h8 => absurd (lcmp_same (ho h9)) h8)
    refine lv_goto (tgt := 2053) hx hb dL_law_1349 (by decide) ?_
    refine W.widen (k := cells + 3) (n := slots + 18) (by omega) (by omega) ?_
    exact hk _ _ _ _ _ _ hRN hW (lv_sub hl [2, 3, 4, 5, 6] rfl)
theorem lk_L_164 : LkV RL 164 yX9_day cX9_day 2 (some .int) 1 := ⟨(bigm (inT6 (List.mem_of_getElem? (i := 129) rfl)) rfl), km_X9_day_inst, km_X9_day_sel, ki_X9, km_X9_day_code, by decide +kernel, by decide +kernel, by decide +kernel⟩
set_option maxHeartbeats 4000000 in
set_option maxRecDepth 100000 in
theorem lc_day (hl0 : l.stackTraces = false) (A : LA X B p s m meth c b L xs) {R : CS → MS → Prop} (hS : H_day R) {n : Nat} (hn : n + 6 ≤ L) (hR : R cs ms) (hc : cells + 3 ≤ 601024) (hsl : slots + 18 ≤ 7293034) (hW : Ws X B s.heap H locs (cs, ms, o)) (hl : lv_has ls 7 (LLs X b n)) (hk : ∀ (cs' : CS) (ms' : MS) (o' : Nat → Int64) (H' : Heap) (locs' : List Loc) (ls' : Array Slot), R cs' ms' → Ws X B s.heap H' locs' (cs', ms', o') → lv_has ls' 7 (LLs X b n) → W p l e room_1 s m #[Value.ref b] below meth c H' locs' (cells + 3) (slots + 18) Q (F0 m 2053 ls' [])) : W p l e room_1 s m #[Value.ref b] below meth c H locs cells slots Q (F0 m 1352 ls []) := by
  obtain ⟨E, hX, hbl, hB, hL⟩ := A
  obtain ⟨hx, hb, hml, hown, hts, -⟩ := id E
  have hbA : ¬ Ab B b := fun q => absurd (show B ≤ b from q) (by omega)
  replace hl : lv_has ls 7 [(0, .ref b), (1, .ref (X.1 0)), (2, .ref (X.1 7)), (3, .ref (X.1 72)), (4, .int (nI n))] := hl
  obtain ⟨rb, ms9, hf9, r8, cs9, hf8, hA8⟩ := hS cs ms (xs (nI n + (1 : Int32)).toNatClampNeg) hR
  have hcd9 : ∀ E, E ∈ (["java/lang/IllegalArgumentException", "java/lang/IllegalStateException"] : List String) → (cd2 "java/lang/IllegalArgumentException") E ≠ 0 := by simp [cd1, cd2]
  refine lv_aload_n hx hb dL_law_1352 rfl (lv_at hl 1 rfl) ?_
  refine lv_aload_n hx hb dL_law_1353 rfl (lv_at hl 0 rfl) ?_
  refine lv_iload hx hb dL_law_1354 (lv_at hl 4 rfl) ?_
  refine lv_iconst (v := (1 : Int32)) hx hb dL_law_1356 (by decide) ?_
  refine lv_iadd hx hb dL_law_1357 ?_
  refine va_sld hx hb hX hbl hbA hW.2.2 (sc_in 1 (by decide) hn hL) dL_law_1358 ?_
  refine lv_aload_n hx hb dL_law_1359 rfl (lv_at hl 3 rfl) ?_
  refine callW (As := [.ref _, .int _, .ref _]) (rest := []) E hW (c_L_day l (G := (fun (x : Int32 ⊕ String) (u : TS) => r8 = x ∧ u = (cs9, ms, o))) (c_X8_day l hl0 hf8) (fun E9 t9 h9 => by
    have h8 := (((fun x t h => by obtain ⟨rfl, rfl⟩ := h; exact ⟨hA8, rfl⟩) : ∀ (x : Int32 ⊕ String) (t : TS), (fun (x : Int32 ⊕ String) (u : TS) => r8 = x ∧ u = (cs9, ms, o)) x t → Agr (cd2 "java/lang/IllegalArgumentException") ["java/lang/IllegalArgumentException", "java/lang/IllegalStateException"] R rb ms9 x t.1 ∧ t.2.1 = ms) _ _ h9).1.2.2.1 E9 rfl
    simpa using h8)) lw_L_162 (Nat.le_of_ble_eq_true rfl) (Nat.le_of_ble_eq_true rfl) (by show _ ≤ 601024; omega) (by show _ ≤ 7293034; omega) hl.1 (Nat.le_of_ble_eq_true rfl) dL_law_1360 (fun k9 u9 hP H locs hW => ?_)
  obtain ⟨csN, oN, rfl, hkk, ho, hRN⟩ := lpost_out hP hcd9 (fun x t h => by obtain ⟨rfl, rfl⟩ := h; exact ⟨hA8, rfl⟩)
  refine lv_istore (lv' := [_, _, _, _, _, _]) hx hb dL_law_1363 hl (by decide) rfl (fun ls hl => ?_)
  refine lv_aload_n hx hb dL_law_1365 rfl (lv_at hl 3 rfl) ?_
  refine lv_aload_n hx hb dL_law_1366 rfl (lv_at hl 1 rfl) ?_
  refine lv_iload hx hb dL_law_1367 (lv_at hl 5 rfl) ?_
  refine lv_iconst (v := (1 : Int32)) hx hb dL_law_1369 (by decide) ?_
  refine lv_iadd hx hb dL_law_1370 ?_
  refine va_sld hx hb hX hbl hbA hW.2.2 (sc_in 1 (by decide) hn hL) dL_law_1371 ?_
  refine callVI (As := [.int _]) (rest := []) E hW (c_X9_day l hf9) lk_L_164 rcv_X9 (Nat.le_of_ble_eq_true rfl) (Nat.le_of_ble_eq_true rfl) (by show _ ≤ 601024; omega) (by show _ ≤ 7293034; omega) hl.1 (Nat.le_of_ble_eq_true rfl) dL_law_1372 (fun H locs hW => ?_)
  refine lv_istore (lv' := [_, _, _, _, _, _, _]) hx hb dL_law_1375 hl (by decide) rfl (fun ls hl => ?_)
  refine lv_aload_n hx hb dL_law_1377 rfl (lv_at hl 4 rfl) ?_
  refine callVI (As := []) (rest := []) E hW (c_X9_thrown l rfl) lk_L_105 rcv_X9 (Nat.le_of_ble_eq_true rfl) (Nat.le_of_ble_eq_true rfl) (by show _ ≤ 601024; omega) (by show _ ≤ 7293034; omega) hl.1 (Nat.le_of_ble_eq_true rfl) dL_law_1378 (fun H locs hW => ?_)
  refine lv_iload hx hb dL_law_1381 (lv_at hl 1 rfl) ?_
  refine lv_icmp_eq (tgt := 1388) hx hb dL_law_1383 (by decide) (fun h9 => ?_) (fun h9 => absurd (by first | exact hkk | exact hkk.symm) h9)
  refine lv_iload hx hb dL_law_1388 (lv_at hl 1 rfl) ?_
  refine lv_if_ne (tgt := 1405) hx hb dL_law_1390 (by decide) (fun h9 => ?_) (fun h9 => ?_)
  · refine lv_goto (tgt := 2053) hx hb dL_law_1405 (by decide) ?_
    refine W.widen (k := cells + 3) (n := slots + 18) (by omega) (by omega) ?_
    exact hk _ _ _ _ _ _ hRN hW (lv_sub hl [2, 3, 4, 5, 6] rfl)
  · refine lv_aload_n hx hb dL_law_1393 rfl (lv_at hl 5 rfl) ?_
    refine lv_iconst (v := (0 : Int32)) hx hb dL_law_1394 (by decide) ?_
    refine ra_72 E hW (vp_in_nI (n := 0) (Nat.le_of_ble_eq_true rfl) (Nat.le_of_ble_eq_true rfl)) dL_law_1395 ?_
    refine lv_iload hx hb dL_law_1396 (lv_at hl 0 rfl) ?_
    refine lv_i2l hx hb dL_law_1398 rfl ?_
    refine W.lcmp hx hb dL_law_1399 ?_
    refine lv_if_eq (tgt := 1405) hx hb dL_law_1400 (by decide) (fun h8 => ?_) (fun h8 => absurd (lcmp_same (ho h9)) h8)
    refine lv_goto (tgt := 2053) hx hb dL_law_1405 (by decide) ?_
    refine W.widen (k := cells + 3) (n := slots + 18) (by omega) (by omega) ?_
    exact hk _ _ _ _ _ _ hRN hW (lv_sub hl [2, 3, 4, 5, 6] rfl)
theorem lk_L_167 : LkV RL 167 yX9_late cX9_late 6 (some .int) 2 := ⟨(bigm (inT6 (List.mem_of_getElem? (i := 134) rfl)) rfl), km_X9_late_inst, km_X9_late_sel, ki_X9, km_X9_late_code, by decide +kernel, by decide +kernel, by decide +kernel⟩
set_option maxHeartbeats 4000000 in
set_option maxRecDepth 100000 in
theorem lc_late (hl0 : l.stackTraces = false) (A : LA X B p s m meth c b L xs) {R : CS → MS → Prop} (hS : H_late R) {n : Nat} (hn : n + 6 ≤ L) (hR : R cs ms) (hc : cells + 3 ≤ 601024) (hsl : slots + 18 ≤ 7293034) (hW : Ws X B s.heap H locs (cs, ms, o)) (hl : lv_has ls 7 (LLs X b n)) (hk : ∀ (cs' : CS) (ms' : MS) (o' : Nat → Int64) (H' : Heap) (locs' : List Loc) (ls' : Array Slot), R cs' ms' → Ws X B s.heap H' locs' (cs', ms', o') → lv_has ls' 7 (LLs X b n) → W p l e room_1 s m #[Value.ref b] below meth c H' locs' (cells + 3) (slots + 18) Q (F0 m 2053 ls' [])) : W p l e room_1 s m #[Value.ref b] below meth c H locs cells slots Q (F0 m 1408 ls []) := by
  obtain ⟨E, hX, hbl, hB, hL⟩ := A
  obtain ⟨hx, hb, hml, hown, hts, -⟩ := id E
  have hbA : ¬ Ab B b := fun q => absurd (show B ≤ b from q) (by omega)
  replace hl : lv_has ls 7 [(0, .ref b), (1, .ref (X.1 0)), (2, .ref (X.1 7)), (3, .ref (X.1 72)), (4, .int (nI n))] := hl
  obtain ⟨rb, ms9, hf9, r8, cs9, hf8, hA8⟩ := hS cs ms (xs (nI n + (1 : Int32)).toNatClampNeg) (xs (nI n + (2 : Int32)).toNatClampNeg) hR
  have hcd9 : ∀ E, E ∈ (["java/lang/IllegalArgumentException"] : List String) → cd1 E ≠ 0 := by simp [cd1, cd2]
  refine lv_aload_n hx hb dL_law_1408 rfl (lv_at hl 1 rfl) ?_
  refine lv_aload_n hx hb dL_law_1409 rfl (lv_at hl 0 rfl) ?_
  refine lv_iload hx hb dL_law_1410 (lv_at hl 4 rfl) ?_
  refine lv_iconst (v := (1 : Int32)) hx hb dL_law_1412 (by decide) ?_
  refine lv_iadd hx hb dL_law_1413 ?_
  refine va_sld hx hb hX hbl hbA hW.2.2 (sc_in 1 (by decide) hn hL) dL_law_1414 ?_
  refine lv_aload_n hx hb dL_law_1415 rfl (lv_at hl 0 rfl) ?_
  refine lv_iload hx hb dL_law_1416 (lv_at hl 4 rfl) ?_
  refine lv_iconst (v := (2 : Int32)) hx hb dL_law_1418 (by decide) ?_
  refine lv_iadd hx hb dL_law_1419 ?_
  refine va_sld hx hb hX hbl hbA hW.2.2 (sc_in 2 (by decide) hn hL) dL_law_1420 ?_
  refine lv_aload_n hx hb dL_law_1421 rfl (lv_at hl 3 rfl) ?_
  refine callW (As := [.ref _, .int _, .int _, .ref _]) (rest := []) E hW (c_L_late l (G := (fun (x : Int32 ⊕ String) (u : TS) => r8 = x ∧ u = (cs9, ms, o))) (c_X8_late l hl0 hf8) (fun E9 t9 h9 => by
    have h8 := (((fun x t h => by obtain ⟨rfl, rfl⟩ := h; exact ⟨hA8, rfl⟩) : ∀ (x : Int32 ⊕ String) (t : TS), (fun (x : Int32 ⊕ String) (u : TS) => r8 = x ∧ u = (cs9, ms, o)) x t → Agr cd1 ["java/lang/IllegalArgumentException"] R rb ms9 x t.1 ∧ t.2.1 = ms) _ _ h9).1.2.2.1 E9 rfl
    simpa using h8)) lw_L_165 (Nat.le_of_ble_eq_true rfl) (Nat.le_of_ble_eq_true rfl) (by show _ ≤ 601024; omega) (by show _ ≤ 7293034; omega) hl.1 (Nat.le_of_ble_eq_true rfl) dL_law_1422 (fun k9 u9 hP H locs hW => ?_)
  obtain ⟨csN, oN, rfl, hkk, ho, hRN⟩ := lpost_out hP hcd9 (fun x t h => by obtain ⟨rfl, rfl⟩ := h; exact ⟨hA8, rfl⟩)
  refine lv_istore (lv' := [_, _, _, _, _, _]) hx hb dL_law_1425 hl (by decide) rfl (fun ls hl => ?_)
  refine lv_aload_n hx hb dL_law_1427 rfl (lv_at hl 3 rfl) ?_
  refine lv_aload_n hx hb dL_law_1428 rfl (lv_at hl 1 rfl) ?_
  refine lv_iload hx hb dL_law_1429 (lv_at hl 5 rfl) ?_
  refine lv_iconst (v := (1 : Int32)) hx hb dL_law_1431 (by decide) ?_
  refine lv_iadd hx hb dL_law_1432 ?_
  refine va_sld hx hb hX hbl hbA hW.2.2 (sc_in 1 (by decide) hn hL) dL_law_1433 ?_
  refine lv_aload_n hx hb dL_law_1434 rfl (lv_at hl 1 rfl) ?_
  refine lv_iload hx hb dL_law_1435 (lv_at hl 5 rfl) ?_
  refine lv_iconst (v := (2 : Int32)) hx hb dL_law_1437 (by decide) ?_
  refine lv_iadd hx hb dL_law_1438 ?_
  refine va_sld hx hb hX hbl hbA hW.2.2 (sc_in 2 (by decide) hn hL) dL_law_1439 ?_
  refine callVI (As := [.int _, .int _]) (rest := []) E hW (c_X9_late l hf9) lk_L_167 rcv_X9 (Nat.le_of_ble_eq_true rfl) (Nat.le_of_ble_eq_true rfl) (by show _ ≤ 601024; omega) (by show _ ≤ 7293034; omega) hl.1 (Nat.le_of_ble_eq_true rfl) dL_law_1440 (fun H locs hW => ?_)
  refine lv_istore (lv' := [_, _, _, _, _, _, _]) hx hb dL_law_1443 hl (by decide) rfl (fun ls hl => ?_)
  refine lv_aload_n hx hb dL_law_1445 rfl (lv_at hl 4 rfl) ?_
  refine callVI (As := []) (rest := []) E hW (c_X9_thrown l rfl) lk_L_105 rcv_X9 (Nat.le_of_ble_eq_true rfl) (Nat.le_of_ble_eq_true rfl) (by show _ ≤ 601024; omega) (by show _ ≤ 7293034; omega) hl.1 (Nat.le_of_ble_eq_true rfl) dL_law_1446 (fun H locs hW => ?_)
  refine lv_iload hx hb dL_law_1449 (lv_at hl 1 rfl) ?_
  refine lv_icmp_eq (tgt := 1456) hx hb dL_law_1451 (by decide) (fun h9 => ?_) (fun h9 => absurd (by first | exact hkk | exact hkk.symm) h9)
  refine lv_iload hx hb dL_law_1456 (lv_at hl 1 rfl) ?_
  refine lv_if_ne (tgt := 1473) hx hb dL_law_1458 (by decide) (fun h9 => ?_) (fun h9 => ?_)
  · refine lv_goto (tgt := 2053) hx hb dL_law_1473 (by decide) ?_
    refine W.widen (k := cells + 3) (n := slots + 18) (by omega) (by omega) ?_
    exact hk _ _ _ _ _ _ hRN hW (lv_sub hl [2, 3, 4, 5, 6] rfl)
  · refine lv_aload_n hx hb dL_law_1461 rfl (lv_at hl 5 rfl) ?_
    refine lv_iconst (v := (0 : Int32)) hx hb dL_law_1462 (by decide) ?_
    refine ra_72 E hW (vp_in_nI (n := 0) (Nat.le_of_ble_eq_true rfl) (Nat.le_of_ble_eq_true rfl)) dL_law_1463 ?_
    refine lv_iload hx hb dL_law_1464 (lv_at hl 0 rfl) ?_
    refine lv_i2l hx hb dL_law_1466 rfl ?_
    refine W.lcmp hx hb dL_law_1467 ?_
    refine lv_if_eq (tgt := 1473) hx hb dL_law_1468 (by decide) (fun h8 => ?_) (fun h8 => absurd (lcmp_same (ho h9)) h8)
    refine lv_goto (tgt := 2053) hx hb dL_law_1473 (by decide) ?_
    refine W.widen (k := cells + 3) (n := slots + 18) (by omega) (by omega) ?_
    exact hk _ _ _ _ _ _ hRN hW (lv_sub hl [2, 3, 4, 5, 6] rfl)
theorem lk_L_170 : LkV RL 170 yX9_item cX9_item 3 (some .int) 2 := ⟨(bigm (inT6 (List.mem_of_getElem? (i := 138) rfl)) rfl), km_X9_item_inst, km_X9_item_sel, ki_X9, km_X9_item_code, by decide +kernel, by decide +kernel, by decide +kernel⟩
set_option maxHeartbeats 4000000 in
set_option maxRecDepth 100000 in
theorem lc_item (hl0 : l.stackTraces = false) (A : LA X B p s m meth c b L xs) {R : CS → MS → Prop} (hS : H_item R) {n : Nat} (hn : n + 6 ≤ L) (hR : R cs ms) (hc : cells + 3 ≤ 601024) (hsl : slots + 18 ≤ 7293034) (hW : Ws X B s.heap H locs (cs, ms, o)) (hl : lv_has ls 7 (LLs X b n)) (hk : ∀ (cs' : CS) (ms' : MS) (o' : Nat → Int64) (H' : Heap) (locs' : List Loc) (ls' : Array Slot), R cs' ms' → Ws X B s.heap H' locs' (cs', ms', o') → lv_has ls' 7 (LLs X b n) → W p l e room_1 s m #[Value.ref b] below meth c H' locs' (cells + 3) (slots + 18) Q (F0 m 2053 ls' [])) : W p l e room_1 s m #[Value.ref b] below meth c H locs cells slots Q (F0 m 1476 ls []) := by
  obtain ⟨E, hX, hbl, hB, hL⟩ := A
  obtain ⟨hx, hb, hml, hown, hts, -⟩ := id E
  have hbA : ¬ Ab B b := fun q => absurd (show B ≤ b from q) (by omega)
  replace hl : lv_has ls 7 [(0, .ref b), (1, .ref (X.1 0)), (2, .ref (X.1 7)), (3, .ref (X.1 72)), (4, .int (nI n))] := hl
  obtain ⟨rb, ms9, hf9, r8, cs9, hf8, hA8⟩ := hS cs ms (xs (nI n + (1 : Int32)).toNatClampNeg) (xs (nI n + (2 : Int32)).toNatClampNeg) hR
  have hcd9 : ∀ E, E ∈ (["java/util/NoSuchElementException", "java/lang/IllegalArgumentException"] : List String) → (cd2 "java/util/NoSuchElementException") E ≠ 0 := by simp [cd1, cd2]
  refine lv_aload_n hx hb dL_law_1476 rfl (lv_at hl 1 rfl) ?_
  refine lv_aload_n hx hb dL_law_1477 rfl (lv_at hl 0 rfl) ?_
  refine lv_iload hx hb dL_law_1478 (lv_at hl 4 rfl) ?_
  refine lv_iconst (v := (1 : Int32)) hx hb dL_law_1480 (by decide) ?_
  refine lv_iadd hx hb dL_law_1481 ?_
  refine va_sld hx hb hX hbl hbA hW.2.2 (sc_in 1 (by decide) hn hL) dL_law_1482 ?_
  refine lv_aload_n hx hb dL_law_1483 rfl (lv_at hl 0 rfl) ?_
  refine lv_iload hx hb dL_law_1484 (lv_at hl 4 rfl) ?_
  refine lv_iconst (v := (2 : Int32)) hx hb dL_law_1486 (by decide) ?_
  refine lv_iadd hx hb dL_law_1487 ?_
  refine va_sld hx hb hX hbl hbA hW.2.2 (sc_in 2 (by decide) hn hL) dL_law_1488 ?_
  refine lv_aload_n hx hb dL_law_1489 rfl (lv_at hl 3 rfl) ?_
  refine callW (As := [.ref _, .int _, .int _, .ref _]) (rest := []) E hW (c_L_item l (G := (fun (x : Int32 ⊕ String) (u : TS) => r8 = x ∧ u = (cs9, ms, o))) (c_X8_item l hl0 hf8) (fun E9 t9 h9 => by
    have h8 := (((fun x t h => by obtain ⟨rfl, rfl⟩ := h; exact ⟨hA8, rfl⟩) : ∀ (x : Int32 ⊕ String) (t : TS), (fun (x : Int32 ⊕ String) (u : TS) => r8 = x ∧ u = (cs9, ms, o)) x t → Agr (cd2 "java/util/NoSuchElementException") ["java/util/NoSuchElementException", "java/lang/IllegalArgumentException"] R rb ms9 x t.1 ∧ t.2.1 = ms) _ _ h9).1.2.2.1 E9 rfl
    simpa using h8)) lw_L_168 (Nat.le_of_ble_eq_true rfl) (Nat.le_of_ble_eq_true rfl) (by show _ ≤ 601024; omega) (by show _ ≤ 7293034; omega) hl.1 (Nat.le_of_ble_eq_true rfl) dL_law_1490 (fun k9 u9 hP H locs hW => ?_)
  obtain ⟨csN, oN, rfl, hkk, ho, hRN⟩ := lpost_out hP hcd9 (fun x t h => by obtain ⟨rfl, rfl⟩ := h; exact ⟨hA8, rfl⟩)
  refine lv_istore (lv' := [_, _, _, _, _, _]) hx hb dL_law_1493 hl (by decide) rfl (fun ls hl => ?_)
  refine lv_aload_n hx hb dL_law_1495 rfl (lv_at hl 3 rfl) ?_
  refine lv_aload_n hx hb dL_law_1496 rfl (lv_at hl 1 rfl) ?_
  refine lv_iload hx hb dL_law_1497 (lv_at hl 5 rfl) ?_
  refine lv_iconst (v := (1 : Int32)) hx hb dL_law_1499 (by decide) ?_
  refine lv_iadd hx hb dL_law_1500 ?_
  refine va_sld hx hb hX hbl hbA hW.2.2 (sc_in 1 (by decide) hn hL) dL_law_1501 ?_
  refine lv_aload_n hx hb dL_law_1502 rfl (lv_at hl 1 rfl) ?_
  refine lv_iload hx hb dL_law_1503 (lv_at hl 5 rfl) ?_
  refine lv_iconst (v := (2 : Int32)) hx hb dL_law_1505 (by decide) ?_
  refine lv_iadd hx hb dL_law_1506 ?_
  refine va_sld hx hb hX hbl hbA hW.2.2 (sc_in 2 (by decide) hn hL) dL_law_1507 ?_
  refine callVI (As := [.int _, .int _]) (rest := []) E hW (c_X9_item l hf9) lk_L_170 rcv_X9 (Nat.le_of_ble_eq_true rfl) (Nat.le_of_ble_eq_true rfl) (by show _ ≤ 601024; omega) (by show _ ≤ 7293034; omega) hl.1 (Nat.le_of_ble_eq_true rfl) dL_law_1508 (fun H locs hW => ?_)
  refine lv_istore (lv' := [_, _, _, _, _, _, _]) hx hb dL_law_1511 hl (by decide) rfl (fun ls hl => ?_)
  refine lv_aload_n hx hb dL_law_1513 rfl (lv_at hl 4 rfl) ?_
  refine callVI (As := []) (rest := []) E hW (c_X9_thrown l rfl) lk_L_105 rcv_X9 (Nat.le_of_ble_eq_true rfl) (Nat.le_of_ble_eq_true rfl) (by show _ ≤ 601024; omega) (by show _ ≤ 7293034; omega) hl.1 (Nat.le_of_ble_eq_true rfl) dL_law_1514 (fun H locs hW => ?_)
  refine lv_iload hx hb dL_law_1517 (lv_at hl 1 rfl) ?_
  refine lv_icmp_eq (tgt := 1524) hx hb dL_law_1519 (by decide) (fun h9 => ?_) (fun h9 => absurd (by first | exact hkk | exact hkk.symm) h9)
  refine lv_iload hx hb dL_law_1524 (lv_at hl 1 rfl) ?_
  refine lv_if_ne (tgt := 1541) hx hb dL_law_1526 (by decide) (fun h9 => ?_) (fun h9 => ?_)
  · refine lv_goto (tgt := 2053) hx hb dL_law_1541 (by decide) ?_
    refine W.widen (k := cells + 3) (n := slots + 18) (by omega) (by omega) ?_
    exact hk _ _ _ _ _ _ hRN hW (lv_sub hl [2, 3, 4, 5, 6] rfl)
  · refine lv_aload_n hx hb dL_law_1529 rfl (lv_at hl 5 rfl) ?_
    refine lv_iconst (v := (0 : Int32)) hx hb dL_law_1530 (by decide) ?_
    refine ra_72 E hW (vp_in_nI (n := 0) (Nat.le_of_ble_eq_true rfl) (Nat.le_of_ble_eq_true rfl)) dL_law_1531 ?_
    refine lv_iload hx hb dL_law_1532 (lv_at hl 0 rfl) ?_
    refine lv_i2l hx hb dL_law_1534 rfl ?_
    refine W.lcmp hx hb dL_law_1535 ?_
    refine lv_if_eq (tgt := 1541) hx hb dL_law_1536 (by decide) (fun h8 => ?_) (fun h8 => absurd (lcmp_same (ho h9)) h8)
    refine lv_goto (tgt := 2053) hx hb dL_law_1541 (by decide) ?_
    refine W.widen (k := cells + 3) (n := slots + 18) (by omega) (by omega) ?_
    exact hk _ _ _ _ _ _ hRN hW (lv_sub hl [2, 3, 4, 5, 6] rfl)
theorem lk_L_173 : LkV RL 173 yX9_find cX9_find 8 (some .int) 4 := ⟨(bigm (inT6 (List.mem_of_getElem? (i := 150) rfl)) rfl), km_X9_find_inst, km_X9_find_sel, ki_X9, km_X9_find_code, by decide +kernel, by decide +kernel, by decide +kernel⟩
set_option maxHeartbeats 4000000 in
set_option maxRecDepth 100000 in
theorem lc_find (hl0 : l.stackTraces = false) (A : LA X B p s m meth c b L xs) {R : CS → MS → Prop} (hS : H_find R) {n : Nat} (hn : n + 6 ≤ L) (hR : R cs ms) (hc : cells + 3 ≤ 601024) (hsl : slots + 18 ≤ 7293034) (hW : Ws X B s.heap H locs (cs, ms, o)) (hl : lv_has ls 7 (LLs X b n)) (hk : ∀ (cs' : CS) (ms' : MS) (o' : Nat → Int64) (H' : Heap) (locs' : List Loc) (ls' : Array Slot), R cs' ms' → Ws X B s.heap H' locs' (cs', ms', o') → lv_has ls' 7 (LLs X b n) → W p l e room_1 s m #[Value.ref b] below meth c H' locs' (cells + 3) (slots + 18) Q (F0 m 2053 ls' [])) : W p l e room_1 s m #[Value.ref b] below meth c H locs cells slots Q (F0 m 1544 ls []) := by
  obtain ⟨E, hX, hbl, hB, hL⟩ := A
  obtain ⟨hx, hb, hml, hown, hts, -⟩ := id E
  have hbA : ¬ Ab B b := fun q => absurd (show B ≤ b from q) (by omega)
  replace hl : lv_has ls 7 [(0, .ref b), (1, .ref (X.1 0)), (2, .ref (X.1 7)), (3, .ref (X.1 72)), (4, .int (nI n))] := hl
  obtain ⟨rb, ms9, hf9, r8, cs9, hf8, hA8⟩ := hS cs ms (xs (nI n + (1 : Int32)).toNatClampNeg) (xs (nI n + (2 : Int32)).toNatClampNeg) (xs (nI n + (3 : Int32)).toNatClampNeg) (xs (nI n + (4 : Int32)).toNatClampNeg) hR
  have hcd9 : ∀ E, E ∈ (["java/lang/IllegalArgumentException"] : List String) → cd1 E ≠ 0 := by simp [cd1, cd2]
  refine lv_aload_n hx hb dL_law_1544 rfl (lv_at hl 1 rfl) ?_
  refine lv_aload_n hx hb dL_law_1545 rfl (lv_at hl 0 rfl) ?_
  refine lv_iload hx hb dL_law_1546 (lv_at hl 4 rfl) ?_
  refine lv_iconst (v := (1 : Int32)) hx hb dL_law_1548 (by decide) ?_
  refine lv_iadd hx hb dL_law_1549 ?_
  refine va_sld hx hb hX hbl hbA hW.2.2 (sc_in 1 (by decide) hn hL) dL_law_1550 ?_
  refine lv_aload_n hx hb dL_law_1551 rfl (lv_at hl 0 rfl) ?_
  refine lv_iload hx hb dL_law_1552 (lv_at hl 4 rfl) ?_
  refine lv_iconst (v := (2 : Int32)) hx hb dL_law_1554 (by decide) ?_
  refine lv_iadd hx hb dL_law_1555 ?_
  refine va_sld hx hb hX hbl hbA hW.2.2 (sc_in 2 (by decide) hn hL) dL_law_1556 ?_
  refine lv_aload_n hx hb dL_law_1557 rfl (lv_at hl 0 rfl) ?_
  refine lv_iload hx hb dL_law_1558 (lv_at hl 4 rfl) ?_
  refine lv_iconst (v := (3 : Int32)) hx hb dL_law_1560 (by decide) ?_
  refine lv_iadd hx hb dL_law_1561 ?_
  refine va_sld hx hb hX hbl hbA hW.2.2 (sc_in 3 (by decide) hn hL) dL_law_1562 ?_
  refine lv_aload_n hx hb dL_law_1563 rfl (lv_at hl 0 rfl) ?_
  refine lv_iload hx hb dL_law_1564 (lv_at hl 4 rfl) ?_
  refine lv_iconst (v := (4 : Int32)) hx hb dL_law_1566 (by decide) ?_
  refine lv_iadd hx hb dL_law_1567 ?_
  refine va_sld hx hb hX hbl hbA hW.2.2 (sc_in 4 (by decide) hn hL) dL_law_1568 ?_
  refine lv_aload_n hx hb dL_law_1569 rfl (lv_at hl 3 rfl) ?_
  refine callW (As := [.ref _, .int _, .int _, .int _, .int _, .ref _]) (rest := []) E hW (c_L_find l (G := (fun (x : Int32 ⊕ String) (u : TS) => r8 = x ∧ u = (cs9, ms, o))) (c_X8_find l hl0 hf8) (fun E9 t9 h9 => by
    have h8 := (((fun x t h => by obtain ⟨rfl, rfl⟩ := h; exact ⟨hA8, rfl⟩) : ∀ (x : Int32 ⊕ String) (t : TS), (fun (x : Int32 ⊕ String) (u : TS) => r8 = x ∧ u = (cs9, ms, o)) x t → Agr cd1 ["java/lang/IllegalArgumentException"] R rb ms9 x t.1 ∧ t.2.1 = ms) _ _ h9).1.2.2.1 E9 rfl
    simpa using h8)) lw_L_171 (Nat.le_of_ble_eq_true rfl) (Nat.le_of_ble_eq_true rfl) (by show _ ≤ 601024; omega) (by show _ ≤ 7293034; omega) hl.1 (Nat.le_of_ble_eq_true rfl) dL_law_1570 (fun k9 u9 hP H locs hW => ?_)
  obtain ⟨csN, oN, rfl, hkk, ho, hRN⟩ := lpost_out hP hcd9 (fun x t h => by obtain ⟨rfl, rfl⟩ := h; exact ⟨hA8, rfl⟩)
  refine lv_istore (lv' := [_, _, _, _, _, _]) hx hb dL_law_1573 hl (by decide) rfl (fun ls hl => ?_)
  refine lv_aload_n hx hb dL_law_1575 rfl (lv_at hl 3 rfl) ?_
  refine lv_aload_n hx hb dL_law_1576 rfl (lv_at hl 1 rfl) ?_
  refine lv_iload hx hb dL_law_1577 (lv_at hl 5 rfl) ?_
  refine lv_iconst (v := (1 : Int32)) hx hb dL_law_1579 (by decide) ?_
  refine lv_iadd hx hb dL_law_1580 ?_
  refine va_sld hx hb hX hbl hbA hW.2.2 (sc_in 1 (by decide) hn hL) dL_law_1581 ?_
  refine lv_aload_n hx hb dL_law_1582 rfl (lv_at hl 1 rfl) ?_
  refine lv_iload hx hb dL_law_1583 (lv_at hl 5 rfl) ?_
  refine lv_iconst (v := (2 : Int32)) hx hb dL_law_1585 (by decide) ?_
  refine lv_iadd hx hb dL_law_1586 ?_
  refine va_sld hx hb hX hbl hbA hW.2.2 (sc_in 2 (by decide) hn hL) dL_law_1587 ?_
  refine lv_aload_n hx hb dL_law_1588 rfl (lv_at hl 1 rfl) ?_
  refine lv_iload hx hb dL_law_1589 (lv_at hl 5 rfl) ?_
  refine lv_iconst (v := (3 : Int32)) hx hb dL_law_1591 (by decide) ?_
  refine lv_iadd hx hb dL_law_1592 ?_
  refine va_sld hx hb hX hbl hbA hW.2.2 (sc_in 3 (by decide) hn hL) dL_law_1593 ?_
  refine lv_aload_n hx hb dL_law_1594 rfl (lv_at hl 1 rfl) ?_
  refine lv_iload hx hb dL_law_1595 (lv_at hl 5 rfl) ?_
  refine lv_iconst (v := (4 : Int32)) hx hb dL_law_1597 (by decide) ?_
  refine lv_iadd hx hb dL_law_1598 ?_
  refine va_sld hx hb hX hbl hbA hW.2.2 (sc_in 4 (by decide) hn hL) dL_law_1599 ?_
  refine callVI (As := [.int _, .int _, .int _, .int _]) (rest := []) E hW (c_X9_find l hf9) lk_L_173 rcv_X9 (Nat.le_of_ble_eq_true rfl) (Nat.le_of_ble_eq_true rfl) (by show _ ≤ 601024; omega) (by show _ ≤ 7293034; omega) hl.1 (Nat.le_of_ble_eq_true rfl) dL_law_1600 (fun H locs hW => ?_)
  refine lv_istore (lv' := [_, _, _, _, _, _, _]) hx hb dL_law_1603 hl (by decide) rfl (fun ls hl => ?_)
  refine lv_aload_n hx hb dL_law_1605 rfl (lv_at hl 4 rfl) ?_
  refine callVI (As := []) (rest := []) E hW (c_X9_thrown l rfl) lk_L_105 rcv_X9 (Nat.le_of_ble_eq_true rfl) (Nat.le_of_ble_eq_true rfl) (by show _ ≤ 601024; omega) (by show _ ≤ 7293034; omega) hl.1 (Nat.le_of_ble_eq_true rfl) dL_law_1606 (fun H locs hW => ?_)
  refine lv_iload hx hb dL_law_1609 (lv_at hl 1 rfl) ?_
  refine lv_icmp_eq (tgt := 1616) hx hb dL_law_1611 (by decide) (fun h9 => ?_) (fun h9 => absurd (by first | exact hkk | exact hkk.symm) h9)
  refine lv_iload hx hb dL_law_1616 (lv_at hl 1 rfl) ?_
  refine lv_if_ne (tgt := 1633) hx hb dL_law_1618 (by decide) (fun h9 => ?_) (fun h9 => ?_)
  · refine lv_goto (tgt := 2053) hx hb dL_law_1633 (by decide) ?_
    refine W.widen (k := cells + 3) (n := slots + 18) (by omega) (by omega) ?_
    exact hk _ _ _ _ _ _ hRN hW (lv_sub hl [2, 3, 4, 5, 6] rfl)
  · refine lv_aload_n hx hb dL_law_1621 rfl (lv_at hl 5 rfl) ?_
    refine lv_iconst (v := (0 : Int32)) hx hb dL_law_1622 (by decide) ?_
    refine ra_72 E hW (vp_in_nI (n := 0) (Nat.le_of_ble_eq_true rfl) (Nat.le_of_ble_eq_true rfl)) dL_law_1623 ?_
    refine lv_iload hx hb dL_law_1624 (lv_at hl 0 rfl) ?_
    refine lv_i2l hx hb dL_law_1626 rfl ?_
    refine W.lcmp hx hb dL_law_1627 ?_
    refine lv_if_eq (tgt := 1633) hx hb dL_law_1628 (by decide) (fun h8 => ?_) (fun h8 => absurd (lcmp_same (ho h9)) h8)
    refine lv_goto (tgt := 2053) hx hb dL_law_1633 (by decide) ?_
    refine W.widen (k := cells + 3) (n := slots + 18) (by omega) (by omega) ?_
    exact hk _ _ _ _ _ _ hRN hW (lv_sub hl [2, 3, 4, 5, 6] rfl)
theorem lk_L_174 : LkV RL 174 yX8_found cX8_found 2 (some .int) 1 := ⟨(bigm (inT1 (List.mem_of_getElem? (i := 215) rfl)) rfl), km_X8_found_inst, km_X8_found_sel, ki_X8, km_X8_found_code, by decide +kernel, by decide +kernel, by decide +kernel⟩
theorem lk_L_177 : LkV RL 177 yX9_found cX9_found 2 (some .int) 1 := ⟨(bigm (inT6 (List.mem_of_getElem? (i := 158) rfl)) rfl), km_X9_found_inst, km_X9_found_sel, ki_X9, km_X9_found_code, by decide +kernel, by decide +kernel, by decide +kernel⟩
set_option maxHeartbeats 4000000 in
set_option maxRecDepth 100000 in
theorem lc_found (hl0 : l.stackTraces = false) (A : LA X B p s m meth c b L xs) {R : CS → MS → Prop} (hS : H_found R) {n : Nat} (hn : n + 6 ≤ L) (hR : R cs ms) (hc : cells + 3 ≤ 601024) (hsl : slots + 18 ≤ 7293034) (hW : Ws X B s.heap H locs (cs, ms, o)) (hl : lv_has ls 7 (LLs X b n)) (hk : ∀ (cs' : CS) (ms' : MS) (o' : Nat → Int64) (H' : Heap) (locs' : List Loc) (ls' : Array Slot), R cs' ms' → Ws X B s.heap H' locs' (cs', ms', o') → lv_has ls' 7 (LLs X b n) → W p l e room_1 s m #[Value.ref b] below meth c H' locs' (cells + 3) (slots + 18) Q (F0 m 2053 ls' [])) : W p l e room_1 s m #[Value.ref b] below meth c H locs cells slots Q (F0 m 1636 ls []) := by
  obtain ⟨E, hX, hbl, hB, hL⟩ := A
  obtain ⟨hx, hb, hml, hown, hts, -⟩ := id E
  have hbA : ¬ Ab B b := fun q => absurd (show B ≤ b from q) (by omega)
  replace hl : lv_has ls 7 [(0, .ref b), (1, .ref (X.1 0)), (2, .ref (X.1 7)), (3, .ref (X.1 72)), (4, .int (nI n))] := hl
  obtain ⟨r8, ms9, hf8, hf9, hRN⟩ := hS cs ms (xs (nI n + (1 : Int32)).toNatClampNeg) hR
  refine lv_aload_n hx hb dL_law_1636 rfl (lv_at hl 1 rfl) ?_
  refine lv_aload_n hx hb dL_law_1637 rfl (lv_at hl 0 rfl) ?_
  refine lv_iload hx hb dL_law_1638 (lv_at hl 4 rfl) ?_
  refine lv_iconst (v := (1 : Int32)) hx hb dL_law_1640 (by decide) ?_
  refine lv_iadd hx hb dL_law_1641 ?_
  refine va_sld hx hb hX hbl hbA hW.2.2 (sc_in 1 (by decide) hn hL) dL_law_1642 ?_
  refine callVI (As := [.int _]) (rest := []) E hW (c_X8_found l hf8) lk_L_174 rcv_X8 (Nat.le_of_ble_eq_true rfl) (Nat.le_of_ble_eq_true rfl) (by show _ ≤ 601024; omega) (by show _ ≤ 7293034; omega) hl.1 (Nat.le_of_ble_eq_true rfl) dL_law_1643 (fun H locs hW => ?_)
  refine lv_aload_n hx hb dL_law_1646 rfl (lv_at hl 2 rfl) ?_
  refine lv_aload_n hx hb dL_law_1647 rfl (lv_at hl 0 rfl) ?_
  refine lv_iload hx hb dL_law_1648 (lv_at hl 4 rfl) ?_
  refine lv_iconst (v := (1 : Int32)) hx hb dL_law_1650 (by decide) ?_
  refine lv_iadd hx hb dL_law_1651 ?_
  refine va_sld hx hb hX hbl hbA hW.2.2 (sc_in 1 (by decide) hn hL) dL_law_1652 ?_
  refine callVI (As := [.int _]) (rest := [.int _]) E hW (c_X9_found l hf9) lk_L_177 rcv_X9 (Nat.le_of_ble_eq_true rfl) (Nat.le_of_ble_eq_true rfl) (by show _ ≤ 601024; omega) (by show _ ≤ 7293034; omega) hl.1 (Nat.le_of_ble_eq_true rfl) dL_law_1653 (fun H locs hW => ?_)
  refine lv_icmp_eq (tgt := 2053) hx hb dL_law_1656 (by decide) (fun h8 => ?_) (fun h8 => absurd rfl h8)
  refine W.widen (k := cells + 3) (n := slots + 18) (by omega) (by omega) ?_
  exact hk _ _ _ _ _ _ hRN hW (lv_sub hl [0, 1, 2, 3, 4] rfl)
theorem lk_L_180 : LkV RL 180 yX9_sell cX9_sell 7 (some .int) 2 := ⟨(bigm (inT6 (List.mem_of_getElem? (i := 162) rfl)) rfl), km_X9_sell_inst, km_X9_sell_sel, ki_X9, km_X9_sell_code, by decide +kernel, by decide +kernel, by decide +kernel⟩
set_option maxHeartbeats 4000000 in
set_option maxRecDepth 100000 in
theorem lc_sell (hl0 : l.stackTraces = false) (A : LA X B p s m meth c b L xs) {R : CS → MS → Prop} (hS : H_sell R) {n : Nat} (hn : n + 6 ≤ L) (hR : R cs ms) (hc : cells + 3 ≤ 601024) (hsl : slots + 18 ≤ 7293034) (hW : Ws X B s.heap H locs (cs, ms, o)) (hl : lv_has ls 7 (LLs X b n)) (hk : ∀ (cs' : CS) (ms' : MS) (o' : Nat → Int64) (H' : Heap) (locs' : List Loc) (ls' : Array Slot), R cs' ms' → Ws X B s.heap H' locs' (cs', ms', o') → lv_has ls' 7 (LLs X b n) → W p l e room_1 s m #[Value.ref b] below meth c H' locs' (cells + 3) (slots + 18) Q (F0 m 2053 ls' [])) : W p l e room_1 s m #[Value.ref b] below meth c H locs cells slots Q (F0 m 1661 ls []) := by
  obtain ⟨E, hX, hbl, hB, hL⟩ := A
  obtain ⟨hx, hb, hml, hown, hts, -⟩ := id E
  have hbA : ¬ Ab B b := fun q => absurd (show B ≤ b from q) (by omega)
  replace hl : lv_has ls 7 [(0, .ref b), (1, .ref (X.1 0)), (2, .ref (X.1 7)), (3, .ref (X.1 72)), (4, .int (nI n))] := hl
  obtain ⟨rb, ms9, hf9, r8, cs9, hf8, hA8⟩ := hS cs ms (xs (nI n + (1 : Int32)).toNatClampNeg) (xs (nI n + (2 : Int32)).toNatClampNeg) hR
  have hcd9 : ∀ E, E ∈ (["java/util/NoSuchElementException", "java/lang/IllegalArgumentException"] : List String) → (cd2 "java/util/NoSuchElementException") E ≠ 0 := by simp [cd1, cd2]
  refine lv_aload_n hx hb dL_law_1661 rfl (lv_at hl 1 rfl) ?_
  refine lv_aload_n hx hb dL_law_1662 rfl (lv_at hl 0 rfl) ?_
  refine lv_iload hx hb dL_law_1663 (lv_at hl 4 rfl) ?_
  refine lv_iconst (v := (1 : Int32)) hx hb dL_law_1665 (by decide) ?_
  refine lv_iadd hx hb dL_law_1666 ?_
  refine va_sld hx hb hX hbl hbA hW.2.2 (sc_in 1 (by decide) hn hL) dL_law_1667 ?_
  refine lv_aload_n hx hb dL_law_1668 rfl (lv_at hl 0 rfl) ?_
  refine lv_iload hx hb dL_law_1669 (lv_at hl 4 rfl) ?_
  refine lv_iconst (v := (2 : Int32)) hx hb dL_law_1671 (by decide) ?_
  refine lv_iadd hx hb dL_law_1672 ?_
  refine va_sld hx hb hX hbl hbA hW.2.2 (sc_in 2 (by decide) hn hL) dL_law_1673 ?_
  refine lv_aload_n hx hb dL_law_1674 rfl (lv_at hl 3 rfl) ?_
  refine callW (As := [.ref _, .int _, .int _, .ref _]) (rest := []) E hW (c_L_sell l (G := (fun (x : Int32 ⊕ String) (u : TS) => r8 = x ∧ u = (cs9, ms, o))) (c_X8_sell l hl0 hf8) (fun E9 t9 h9 => by
    have h8 := (((fun x t h => by obtain ⟨rfl, rfl⟩ := h; exact ⟨hA8, rfl⟩) : ∀ (x : Int32 ⊕ String) (t : TS), (fun (x : Int32 ⊕ String) (u : TS) => r8 = x ∧ u = (cs9, ms, o)) x t → Agr (cd2 "java/util/NoSuchElementException") ["java/util/NoSuchElementException", "java/lang/IllegalArgumentException"] R rb ms9 x t.1 ∧ t.2.1 = ms) _ _ h9).1.2.2.1 E9 rfl
    simpa using h8)) lw_L_178 (Nat.le_of_ble_eq_true rfl) (Nat.le_of_ble_eq_true rfl) (by show _ ≤ 601024; omega) (by show _ ≤ 7293034; omega) hl.1 (Nat.le_of_ble_eq_true rfl) dL_law_1675 (fun k9 u9 hP H locs hW => ?_)
  obtain ⟨csN, oN, rfl, hkk, ho, hRN⟩ := lpost_out hP hcd9 (fun x t h => by obtain ⟨rfl, rfl⟩ := h; exact ⟨hA8, rfl⟩)
  refine lv_istore (lv' := [_, _, _, _, _, _]) hx hb dL_law_1678 hl (by decide) rfl (fun ls hl => ?_)
  refine lv_aload_n hx hb dL_law_1680 rfl (lv_at hl 3 rfl) ?_
  refine lv_aload_n hx hb dL_law_1681 rfl (lv_at hl 1 rfl) ?_
  refine lv_iload hx hb dL_law_1682 (lv_at hl 5 rfl) ?_
  refine lv_iconst (v := (1 : Int32)) hx hb dL_law_1684 (by decide) ?_
  refine lv_iadd hx hb dL_law_1685 ?_
  refine va_sld hx hb hX hbl hbA hW.2.2 (sc_in 1 (by decide) hn hL) dL_law_1686 ?_
  refine lv_aload_n hx hb dL_law_1687 rfl (lv_at hl 1 rfl) ?_
  refine lv_iload hx hb dL_law_1688 (lv_at hl 5 rfl) ?_
  refine lv_iconst (v := (2 : Int32)) hx hb dL_law_1690 (by decide) ?_
  refine lv_iadd hx hb dL_law_1691 ?_
  refine va_sld hx hb hX hbl hbA hW.2.2 (sc_in 2 (by decide) hn hL) dL_law_1692 ?_
  refine callVI (As := [.int _, .int _]) (rest := []) E hW (c_X9_sell l hf9) lk_L_180 rcv_X9 (Nat.le_of_ble_eq_true rfl) (Nat.le_of_ble_eq_true rfl) (by show _ ≤ 601024; omega) (by show _ ≤ 7293034; omega) hl.1 (Nat.le_of_ble_eq_true rfl) dL_law_1693 (fun H locs hW => ?_)
  refine lv_istore (lv' := [_, _, _, _, _, _, _]) hx hb dL_law_1696 hl (by decide) rfl (fun ls hl => ?_)
  refine lv_aload_n hx hb dL_law_1698 rfl (lv_at hl 4 rfl) ?_
  refine callVI (As := []) (rest := []) E hW (c_X9_thrown l rfl) lk_L_105 rcv_X9 (Nat.le_of_ble_eq_true rfl) (Nat.le_of_ble_eq_true rfl) (by show _ ≤ 601024; omega) (by show _ ≤ 7293034; omega) hl.1 (Nat.le_of_ble_eq_true rfl) dL_law_1699 (fun H locs hW => ?_)
  refine lv_iload hx hb dL_law_1702 (lv_at hl 1 rfl) ?_
  refine lv_icmp_eq (tgt := 1709) hx hb dL_law_1704 (by decide) (fun h9 => ?_) (fun h9 => absurd (by first | exact hkk | exact hkk.symm) h9)
  refine lv_iload hx hb dL_law_1709 (lv_at hl 1 rfl) ?_
  refine lv_if_ne (tgt := 1726) hx hb dL_law_1711 (by decide) (fun h9 => ?_) (fun h9 => ?_)
  · refine lv_goto (tgt := 2053) hx hb dL_law_1726 (by decide) ?_
    refine W.widen (k := cells + 3) (n := slots + 18) (by omega) (by omega) ?_
    exact hk _ _ _ _ _ _ hRN hW (lv_sub hl [2, 3, 4, 5, 6] rfl)
  · refine lv_aload_n hx hb dL_law_1714 rfl (lv_at hl 5 rfl) ?_
    refine lv_iconst (v := (0 : Int32)) hx hb dL_law_1715 (by decide) ?_
    refine ra_72 E hW (vp_in_nI (n := 0) (Nat.le_of_ble_eq_true rfl) (Nat.le_of_ble_eq_true rfl)) dL_law_1716 ?_
    refine lv_iload hx hb dL_law_1717 (lv_at hl 0 rfl) ?_
    refine lv_i2l hx hb dL_law_1719 rfl ?_
    refine W.lcmp hx hb dL_law_1720 ?_
    refine lv_if_eq (tgt := 1726) hx hb dL_law_1721 (by decide) (fun h8 => ?_) (fun h8 => absurd (lcmp_same (ho h9)) h8)
    refine lv_goto (tgt := 2053) hx hb dL_law_1726 (by decide) ?_
    refine W.widen (k := cells + 3) (n := slots + 18) (by omega) (by omega) ?_
    exact hk _ _ _ _ _ _ hRN hW (lv_sub hl [2, 3, 4, 5, 6] rfl)
theorem lk_L_183 : LkV RL 183 yX9_back cX9_back 4 (some .int) 2 := ⟨(bigm (inT6 (List.mem_of_getElem? (i := 170) rfl)) rfl), km_X9_back_inst, km_X9_back_sel, ki_X9, km_X9_back_code, by decide +kernel, by decide +kernel, by decide +kernel⟩
set_option maxHeartbeats 4000000 in
set_option maxRecDepth 100000 in
theorem lc_back (hl0 : l.stackTraces = false) (A : LA X B p s m meth c b L xs) {R : CS → MS → Prop} (hS : H_back R) {n : Nat} (hn : n + 6 ≤ L) (hR : R cs ms) (hc : cells + 3 ≤ 601024) (hsl : slots + 18 ≤ 7293034) (hW : Ws X B s.heap H locs (cs, ms, o)) (hl : lv_has ls 7 (LLs X b n)) (hk : ∀ (cs' : CS) (ms' : MS) (o' : Nat → Int64) (H' : Heap) (locs' : List Loc) (ls' : Array Slot), R cs' ms' → Ws X B s.heap H' locs' (cs', ms', o') → lv_has ls' 7 (LLs X b n) → W p l e room_1 s m #[Value.ref b] below meth c H' locs' (cells + 3) (slots + 18) Q (F0 m 2053 ls' [])) : W p l e room_1 s m #[Value.ref b] below meth c H locs cells slots Q (F0 m 1729 ls []) := by
  obtain ⟨E, hX, hbl, hB, hL⟩ := A
  obtain ⟨hx, hb, hml, hown, hts, -⟩ := id E
  have hbA : ¬ Ab B b := fun q => absurd (show B ≤ b from q) (by omega)
  replace hl : lv_has ls 7 [(0, .ref b), (1, .ref (X.1 0)), (2, .ref (X.1 7)), (3, .ref (X.1 72)), (4, .int (nI n))] := hl
  obtain ⟨rb, ms9, hf9, r8, cs9, hf8, hA8⟩ := hS cs ms (xs (nI n + (1 : Int32)).toNatClampNeg) (xs (nI n + (2 : Int32)).toNatClampNeg) hR
  have hcd9 : ∀ E, E ∈ (["java/util/NoSuchElementException", "java/lang/IllegalArgumentException"] : List String) → (cd2 "java/util/NoSuchElementException") E ≠ 0 := by simp [cd1, cd2]
  refine lv_aload_n hx hb dL_law_1729 rfl (lv_at hl 1 rfl) ?_
  refine lv_aload_n hx hb dL_law_1730 rfl (lv_at hl 0 rfl) ?_
  refine lv_iload hx hb dL_law_1731 (lv_at hl 4 rfl) ?_
  refine lv_iconst (v := (1 : Int32)) hx hb dL_law_1733 (by decide) ?_
  refine lv_iadd hx hb dL_law_1734 ?_
  refine va_sld hx hb hX hbl hbA hW.2.2 (sc_in 1 (by decide) hn hL) dL_law_1735 ?_
  refine lv_aload_n hx hb dL_law_1736 rfl (lv_at hl 0 rfl) ?_
  refine lv_iload hx hb dL_law_1737 (lv_at hl 4 rfl) ?_
  refine lv_iconst (v := (2 : Int32)) hx hb dL_law_1739 (by decide) ?_
  refine lv_iadd hx hb dL_law_1740 ?_
  refine va_sld hx hb hX hbl hbA hW.2.2 (sc_in 2 (by decide) hn hL) dL_law_1741 ?_
  refine lv_aload_n hx hb dL_law_1742 rfl (lv_at hl 3 rfl) ?_
  refine callW (As := [.ref _, .int _, .int _, .ref _]) (rest := []) E hW (c_L_back l (G := (fun (x : Int32 ⊕ String) (u : TS) => r8 = x ∧ u = (cs9, ms, o))) (c_X8_back l hl0 hf8) (fun E9 t9 h9 => by
    have h8 := (((fun x t h => by obtain ⟨rfl, rfl⟩ := h; exact ⟨hA8, rfl⟩) : ∀ (x : Int32 ⊕ String) (t : TS), (fun (x : Int32 ⊕ String) (u : TS) => r8 = x ∧ u = (cs9, ms, o)) x t → Agr (cd2 "java/util/NoSuchElementException") ["java/util/NoSuchElementException", "java/lang/IllegalArgumentException"] R rb ms9 x t.1 ∧ t.2.1 = ms) _ _ h9).1.2.2.1 E9 rfl
    simpa using h8)) lw_L_181 (Nat.le_of_ble_eq_true rfl) (Nat.le_of_ble_eq_true rfl) (by show _ ≤ 601024; omega) (by show _ ≤ 7293034; omega) hl.1 (Nat.le_of_ble_eq_true rfl) dL_law_1743 (fun k9 u9 hP H locs hW => ?_)
  obtain ⟨csN, oN, rfl, hkk, ho, hRN⟩ := lpost_out hP hcd9 (fun x t h => by obtain ⟨rfl, rfl⟩ := h; exact ⟨hA8, rfl⟩)
  refine lv_istore (lv' := [_, _, _, _, _, _]) hx hb dL_law_1746 hl (by decide) rfl (fun ls hl => ?_)
  refine lv_aload_n hx hb dL_law_1748 rfl (lv_at hl 3 rfl) ?_
  refine lv_aload_n hx hb dL_law_1749 rfl (lv_at hl 1 rfl) ?_
  refine lv_iload hx hb dL_law_1750 (lv_at hl 5 rfl) ?_
  refine lv_iconst (v := (1 : Int32)) hx hb dL_law_1752 (by decide) ?_
  refine lv_iadd hx hb dL_law_1753 ?_
  refine va_sld hx hb hX hbl hbA hW.2.2 (sc_in 1 (by decide) hn hL) dL_law_1754 ?_
  refine lv_aload_n hx hb dL_law_1755 rfl (lv_at hl 1 rfl) ?_
  refine lv_iload hx hb dL_law_1756 (lv_at hl 5 rfl) ?_
  refine lv_iconst (v := (2 : Int32)) hx hb dL_law_1758 (by decide) ?_
  refine lv_iadd hx hb dL_law_1759 ?_
  refine va_sld hx hb hX hbl hbA hW.2.2 (sc_in 2 (by decide) hn hL) dL_law_1760 ?_
  refine callVI (As := [.int _, .int _]) (rest := []) E hW (c_X9_back l hf9) lk_L_183 rcv_X9 (Nat.le_of_ble_eq_true rfl) (Nat.le_of_ble_eq_true rfl) (by show _ ≤ 601024; omega) (by show _ ≤ 7293034; omega) hl.1 (Nat.le_of_ble_eq_true rfl) dL_law_1761 (fun H locs hW => ?_)
  refine lv_istore (lv' := [_, _, _, _, _, _, _]) hx hb dL_law_1764 hl (by decide) rfl (fun ls hl => ?_)
  refine lv_aload_n hx hb dL_law_1766 rfl (lv_at hl 4 rfl) ?_
  refine callVI (As := []) (rest := []) E hW (c_X9_thrown l rfl) lk_L_105 rcv_X9 (Nat.le_of_ble_eq_true rfl) (Nat.le_of_ble_eq_true rfl) (by show _ ≤ 601024; omega) (by show _ ≤ 7293034; omega) hl.1 (Nat.le_of_ble_eq_true rfl) dL_law_1767 (fun H locs hW => ?_)
  refine lv_iload hx hb dL_law_1770 (lv_at hl 1 rfl) ?_
  refine lv_icmp_eq (tgt := 1777) hx hb dL_law_1772 (by decide) (fun h9 => ?_) (fun h9 => absurd (by first | exact hkk | exact hkk.symm) h9)
  refine lv_iload hx hb dL_law_1777 (lv_at hl 1 rfl) ?_
  refine lv_if_ne (tgt := 1794) hx hb dL_law_1779 (by decide) (fun h9 => ?_) (fun h9 => ?_)
  · refine lv_goto (tgt := 2053) hx hb dL_law_1794 (by decide) ?_
    refine W.widen (k := cells + 3) (n := slots + 18) (by omega) (by omega) ?_
    exact hk _ _ _ _ _ _ hRN hW (lv_sub hl [2, 3, 4, 5, 6] rfl)
  · refine lv_aload_n hx hb dL_law_1782 rfl (lv_at hl 5 rfl) ?_
    refine lv_iconst (v := (0 : Int32)) hx hb dL_law_1783 (by decide) ?_
    refine ra_72 E hW (vp_in_nI (n := 0) (Nat.le_of_ble_eq_true rfl) (Nat.le_of_ble_eq_true rfl)) dL_law_1784 ?_
    refine lv_iload hx hb dL_law_1785 (lv_at hl 0 rfl) ?_
    refine lv_i2l hx hb dL_law_1787 rfl ?_
    refine W.lcmp hx hb dL_law_1788 ?_
    refine lv_if_eq (tgt := 1794) hx hb dL_law_1789 (by decide) (fun h8 => ?_) (fun h8 => absurd (lcmp_same (ho h9)) h8)
    refine lv_goto (tgt := 2053) hx hb dL_law_1794 (by decide) ?_
    refine W.widen (k := cells + 3) (n := slots + 18) (by omega) (by omega) ?_
    exact hk _ _ _ _ _ _ hRN hW (lv_sub hl [2, 3, 4, 5, 6] rfl)
theorem lk_L_186 : LkV RL 186 yX9_best cX9_best 3 (some .int) 2 := ⟨(bigm (inT6 (List.mem_of_getElem? (i := 174) rfl)) rfl), km_X9_best_inst, km_X9_best_sel, ki_X9, km_X9_best_code, by decide +kernel, by decide +kernel, by decide +kernel⟩
set_option maxHeartbeats 4000000 in
set_option maxRecDepth 100000 in
theorem lc_best (hl0 : l.stackTraces = false) (A : LA X B p s m meth c b L xs) {R : CS → MS → Prop} (hS : H_best R) {n : Nat} (hn : n + 6 ≤ L) (hR : R cs ms) (hc : cells + 3 ≤ 601024) (hsl : slots + 18 ≤ 7293034) (hW : Ws X B s.heap H locs (cs, ms, o)) (hl : lv_has ls 7 (LLs X b n)) (hk : ∀ (cs' : CS) (ms' : MS) (o' : Nat → Int64) (H' : Heap) (locs' : List Loc) (ls' : Array Slot), R cs' ms' → Ws X B s.heap H' locs' (cs', ms', o') → lv_has ls' 7 (LLs X b n) → W p l e room_1 s m #[Value.ref b] below meth c H' locs' (cells + 3) (slots + 18) Q (F0 m 2053 ls' [])) : W p l e room_1 s m #[Value.ref b] below meth c H locs cells slots Q (F0 m 1797 ls []) := by
  obtain ⟨E, hX, hbl, hB, hL⟩ := A
  obtain ⟨hx, hb, hml, hown, hts, -⟩ := id E
  have hbA : ¬ Ab B b := fun q => absurd (show B ≤ b from q) (by omega)
  replace hl : lv_has ls 7 [(0, .ref b), (1, .ref (X.1 0)), (2, .ref (X.1 7)), (3, .ref (X.1 72)), (4, .int (nI n))] := hl
  obtain ⟨rb, ms9, hf9, r8, cs9, hf8, hA8⟩ := hS cs ms (xs (nI n + (1 : Int32)).toNatClampNeg) (xs (nI n + (2 : Int32)).toNatClampNeg) hR
  have hcd9 : ∀ E, E ∈ (["java/util/NoSuchElementException", "java/lang/IllegalArgumentException"] : List String) → (cd2 "java/util/NoSuchElementException") E ≠ 0 := by simp [cd1, cd2]
  refine lv_aload_n hx hb dL_law_1797 rfl (lv_at hl 1 rfl) ?_
  refine lv_aload_n hx hb dL_law_1798 rfl (lv_at hl 0 rfl) ?_
  refine lv_iload hx hb dL_law_1799 (lv_at hl 4 rfl) ?_
  refine lv_iconst (v := (1 : Int32)) hx hb dL_law_1801 (by decide) ?_
  refine lv_iadd hx hb dL_law_1802 ?_
  refine va_sld hx hb hX hbl hbA hW.2.2 (sc_in 1 (by decide) hn hL) dL_law_1803 ?_
  refine lv_aload_n hx hb dL_law_1804 rfl (lv_at hl 0 rfl) ?_
  refine lv_iload hx hb dL_law_1805 (lv_at hl 4 rfl) ?_
  refine lv_iconst (v := (2 : Int32)) hx hb dL_law_1807 (by decide) ?_
  refine lv_iadd hx hb dL_law_1808 ?_
  refine va_sld hx hb hX hbl hbA hW.2.2 (sc_in 2 (by decide) hn hL) dL_law_1809 ?_
  refine lv_aload_n hx hb dL_law_1810 rfl (lv_at hl 3 rfl) ?_
  refine callW (As := [.ref _, .int _, .int _, .ref _]) (rest := []) E hW (c_L_best l (G := (fun (x : Int32 ⊕ String) (u : TS) => r8 = x ∧ u = (cs9, ms, o))) (c_X8_best l hl0 hf8) (fun E9 t9 h9 => by
    have h8 := (((fun x t h => by obtain ⟨rfl, rfl⟩ := h; exact ⟨hA8, rfl⟩) : ∀ (x : Int32 ⊕ String) (t : TS), (fun (x : Int32 ⊕ String) (u : TS) => r8 = x ∧ u = (cs9, ms, o)) x t → Agr (cd2 "java/util/NoSuchElementException") ["java/util/NoSuchElementException", "java/lang/IllegalArgumentException"] R rb ms9 x t.1 ∧ t.2.1 = ms) _ _ h9).1.2.2.1 E9 rfl
    simpa using h8)) lw_L_184 (Nat.le_of_ble_eq_true rfl) (Nat.le_of_ble_eq_true rfl) (by show _ ≤ 601024; omega) (by show _ ≤ 7293034; omega) hl.1 (Nat.le_of_ble_eq_true rfl) dL_law_1811 (fun k9 u9 hP H locs hW => ?_)
  obtain ⟨csN, oN, rfl, hkk, ho, hRN⟩ := lpost_out hP hcd9 (fun x t h => by obtain ⟨rfl, rfl⟩ := h; exact ⟨hA8, rfl⟩)
  refine lv_istore (lv' := [_, _, _, _, _, _]) hx hb dL_law_1814 hl (by decide) rfl (fun ls hl => ?_)
  refine lv_aload_n hx hb dL_law_1816 rfl (lv_at hl 3 rfl) ?_
  refine lv_aload_n hx hb dL_law_1817 rfl (lv_at hl 1 rfl) ?_
  refine lv_iload hx hb dL_law_1818 (lv_at hl 5 rfl) ?_
  refine lv_iconst (v := (1 : Int32)) hx hb dL_law_1820 (by decide) ?_
  refine lv_iadd hx hb dL_law_1821 ?_
  refine va_sld hx hb hX hbl hbA hW.2.2 (sc_in 1 (by decide) hn hL) dL_law_1822 ?_
  refine lv_aload_n hx hb dL_law_1823 rfl (lv_at hl 1 rfl) ?_
  refine lv_iload hx hb dL_law_1824 (lv_at hl 5 rfl) ?_
  refine lv_iconst (v := (2 : Int32)) hx hb dL_law_1826 (by decide) ?_
  refine lv_iadd hx hb dL_law_1827 ?_
  refine va_sld hx hb hX hbl hbA hW.2.2 (sc_in 2 (by decide) hn hL) dL_law_1828 ?_
  refine callVI (As := [.int _, .int _]) (rest := []) E hW (c_X9_best l hf9) lk_L_186 rcv_X9 (Nat.le_of_ble_eq_true rfl) (Nat.le_of_ble_eq_true rfl) (by show _ ≤ 601024; omega) (by show _ ≤ 7293034; omega) hl.1 (Nat.le_of_ble_eq_true rfl) dL_law_1829 (fun H locs hW => ?_)
  refine lv_istore (lv' := [_, _, _, _, _, _, _]) hx hb dL_law_1832 hl (by decide) rfl (fun ls hl => ?_)
  refine lv_aload_n hx hb dL_law_1834 rfl (lv_at hl 4 rfl) ?_
  refine callVI (As := []) (rest := []) E hW (c_X9_thrown l rfl) lk_L_105 rcv_X9 (Nat.le_of_ble_eq_true rfl) (Nat.le_of_ble_eq_true rfl) (by show _ ≤ 601024; omega) (by show _ ≤ 7293034; omega) hl.1 (Nat.le_of_ble_eq_true rfl) dL_law_1835 (fun H locs hW => ?_)
  refine lv_iload hx hb dL_law_1838 (lv_at hl 1 rfl) ?_
  refine lv_icmp_eq (tgt := 1845) hx hb dL_law_1840 (by decide) (fun h9 => ?_) (fun h9 => absurd (by first | exact hkk | exact hkk.symm) h9)
  refine lv_iload hx hb dL_law_1845 (lv_at hl 1 rfl) ?_
  refine lv_if_ne (tgt := 1862) hx hb dL_law_1847 (by decide) (fun h9 => ?_) (fun h9 => ?_)
  · refine lv_goto (tgt := 2053) hx hb dL_law_1862 (by decide) ?_
    refine W.widen (k := cells + 3) (n := slots + 18) (by omega) (by omega) ?_
    exact hk _ _ _ _ _ _ hRN hW (lv_sub hl [2, 3, 4, 5, 6] rfl)
  · refine lv_aload_n hx hb dL_law_1850 rfl (lv_at hl 5 rfl) ?_
    refine lv_iconst (v := (0 : Int32)) hx hb dL_law_1851 (by decide) ?_
    refine ra_72 E hW (vp_in_nI (n := 0) (Nat.le_of_ble_eq_true rfl) (Nat.le_of_ble_eq_true rfl)) dL_law_1852 ?_
    refine lv_iload hx hb dL_law_1853 (lv_at hl 0 rfl) ?_
    refine lv_i2l hx hb dL_law_1855 rfl ?_
    refine W.lcmp hx hb dL_law_1856 ?_
    refine lv_if_eq (tgt := 1862) hx hb dL_law_1857 (by decide) (fun h8 => ?_) (fun h8 => absurd (lcmp_same (ho h9)) h8)
    refine lv_goto (tgt := 2053) hx hb dL_law_1862 (by decide) ?_
    refine W.widen (k := cells + 3) (n := slots + 18) (by omega) (by omega) ?_
    exact hk _ _ _ _ _ _ hRN hW (lv_sub hl [2, 3, 4, 5, 6] rfl)
theorem lk_L_189 : LkV RL 189 yX9_worth cX9_worth 3 (some .int) 2 := ⟨(bigm (inT6 (List.mem_of_getElem? (i := 182) rfl)) rfl), km_X9_worth_inst, km_X9_worth_sel, ki_X9, km_X9_worth_code, by decide +kernel, by decide +kernel, by decide +kernel⟩
set_option maxHeartbeats 4000000 in
set_option maxRecDepth 100000 in
theorem lc_worth (hl0 : l.stackTraces = false) (A : LA X B p s m meth c b L xs) {R : CS → MS → Prop} (hS : H_worth R) {n : Nat} (hn : n + 6 ≤ L) (hR : R cs ms) (hc : cells + 3 ≤ 601024) (hsl : slots + 18 ≤ 7293034) (hW : Ws X B s.heap H locs (cs, ms, o)) (hl : lv_has ls 7 (LLs X b n)) (hk : ∀ (cs' : CS) (ms' : MS) (o' : Nat → Int64) (H' : Heap) (locs' : List Loc) (ls' : Array Slot), R cs' ms' → Ws X B s.heap H' locs' (cs', ms', o') → lv_has ls' 7 (LLs X b n) → W p l e room_1 s m #[Value.ref b] below meth c H' locs' (cells + 3) (slots + 18) Q (F0 m 2053 ls' [])) : W p l e room_1 s m #[Value.ref b] below meth c H locs cells slots Q (F0 m 1865 ls []) := by
  obtain ⟨E, hX, hbl, hB, hL⟩ := A
  obtain ⟨hx, hb, hml, hown, hts, -⟩ := id E
  have hbA : ¬ Ab B b := fun q => absurd (show B ≤ b from q) (by omega)
  replace hl : lv_has ls 7 [(0, .ref b), (1, .ref (X.1 0)), (2, .ref (X.1 7)), (3, .ref (X.1 72)), (4, .int (nI n))] := hl
  obtain ⟨rb, ms9, hf9, r8, cs9, hf8, hA8⟩ := hS cs ms (xs (nI n + (1 : Int32)).toNatClampNeg) (xs (nI n + (2 : Int32)).toNatClampNeg) hR
  have hcd9 : ∀ E, E ∈ (["java/util/NoSuchElementException", "java/lang/IllegalArgumentException"] : List String) → (cd2 "java/util/NoSuchElementException") E ≠ 0 := by simp [cd1, cd2]
  refine lv_aload_n hx hb dL_law_1865 rfl (lv_at hl 1 rfl) ?_
  refine lv_aload_n hx hb dL_law_1866 rfl (lv_at hl 0 rfl) ?_
  refine lv_iload hx hb dL_law_1867 (lv_at hl 4 rfl) ?_
  refine lv_iconst (v := (1 : Int32)) hx hb dL_law_1869 (by decide) ?_
  refine lv_iadd hx hb dL_law_1870 ?_
  refine va_sld hx hb hX hbl hbA hW.2.2 (sc_in 1 (by decide) hn hL) dL_law_1871 ?_
  refine lv_aload_n hx hb dL_law_1872 rfl (lv_at hl 0 rfl) ?_
  refine lv_iload hx hb dL_law_1873 (lv_at hl 4 rfl) ?_
  refine lv_iconst (v := (2 : Int32)) hx hb dL_law_1875 (by decide) ?_
  refine lv_iadd hx hb dL_law_1876 ?_
  refine va_sld hx hb hX hbl hbA hW.2.2 (sc_in 2 (by decide) hn hL) dL_law_1877 ?_
  refine lv_aload_n hx hb dL_law_1878 rfl (lv_at hl 3 rfl) ?_
  refine callW (As := [.ref _, .int _, .int _, .ref _]) (rest := []) E hW (c_L_worth l (G := (fun (x : Int32 ⊕ String) (u : TS) => r8 = x ∧ u = (cs9, ms, o))) (c_X8_worth l hl0 hf8) (fun E9 t9 h9 => by
    have h8 := (((fun x t h => by obtain ⟨rfl, rfl⟩ := h; exact ⟨hA8, rfl⟩) : ∀ (x : Int32 ⊕ String) (t : TS), (fun (x : Int32 ⊕ String) (u : TS) => r8 = x ∧ u = (cs9, ms, o)) x t → Agr (cd2 "java/util/NoSuchElementException") ["java/util/NoSuchElementException", "java/lang/IllegalArgumentException"] R rb ms9 x t.1 ∧ t.2.1 = ms) _ _ h9).1.2.2.1 E9 rfl
    simpa using h8)) lw_L_187 (Nat.le_of_ble_eq_true rfl) (Nat.le_of_ble_eq_true rfl) (by show _ ≤ 601024; omega) (by show _ ≤ 7293034; omega) hl.1 (Nat.le_of_ble_eq_true rfl) dL_law_1879 (fun k9 u9 hP H locs hW => ?_)
  obtain ⟨csN, oN, rfl, hkk, ho, hRN⟩ := lpost_out hP hcd9 (fun x t h => by obtain ⟨rfl, rfl⟩ := h; exact ⟨hA8, rfl⟩)
  refine lv_istore (lv' := [_, _, _, _, _, _]) hx hb dL_law_1882 hl (by decide) rfl (fun ls hl => ?_)
  refine lv_aload_n hx hb dL_law_1884 rfl (lv_at hl 3 rfl) ?_
  refine lv_aload_n hx hb dL_law_1885 rfl (lv_at hl 1 rfl) ?_
  refine lv_iload hx hb dL_law_1886 (lv_at hl 5 rfl) ?_
  refine lv_iconst (v := (1 : Int32)) hx hb dL_law_1888 (by decide) ?_
  refine lv_iadd hx hb dL_law_1889 ?_
  refine va_sld hx hb hX hbl hbA hW.2.2 (sc_in 1 (by decide) hn hL) dL_law_1890 ?_
  refine lv_aload_n hx hb dL_law_1891 rfl (lv_at hl 1 rfl) ?_
  refine lv_iload hx hb dL_law_1892 (lv_at hl 5 rfl) ?_
  refine lv_iconst (v := (2 : Int32)) hx hb dL_law_1894 (by decide) ?_
  refine lv_iadd hx hb dL_law_1895 ?_
  refine va_sld hx hb hX hbl hbA hW.2.2 (sc_in 2 (by decide) hn hL) dL_law_1896 ?_
  refine callVI (As := [.int _, .int _]) (rest := []) E hW (c_X9_worth l hf9) lk_L_189 rcv_X9 (Nat.le_of_ble_eq_true rfl) (Nat.le_of_ble_eq_true rfl) (by show _ ≤ 601024; omega) (by show _ ≤ 7293034; omega) hl.1 (Nat.le_of_ble_eq_true rfl) dL_law_1897 (fun H locs hW => ?_)
  refine lv_istore (lv' := [_, _, _, _, _, _, _]) hx hb dL_law_1900 hl (by decide) rfl (fun ls hl => ?_)
  refine lv_aload_n hx hb dL_law_1902 rfl (lv_at hl 4 rfl) ?_
  refine callVI (As := []) (rest := []) E hW (c_X9_thrown l rfl) lk_L_105 rcv_X9 (Nat.le_of_ble_eq_true rfl) (Nat.le_of_ble_eq_true rfl) (by show _ ≤ 601024; omega) (by show _ ≤ 7293034; omega) hl.1 (Nat.le_of_ble_eq_true rfl) dL_law_1903 (fun H locs hW => ?_)
  refine lv_iload hx hb dL_law_1906 (lv_at hl 1 rfl) ?_
  refine lv_icmp_eq (tgt := 1913) hx hb dL_law_1908 (by decide) (fun h9 => ?_) (fun h9 => absurd (by first | exact hkk | exact hkk.symm) h9)
  refine lv_iload hx hb dL_law_1913 (lv_at hl 1 rfl) ?_
  refine lv_if_ne (tgt := 1930) hx hb dL_law_1915 (by decide) (fun h9 => ?_) (fun h9 => ?_)
  · refine lv_goto (tgt := 2053) hx hb dL_law_1930 (by decide) ?_
    refine W.widen (k := cells + 3) (n := slots + 18) (by omega) (by omega) ?_
    exact hk _ _ _ _ _ _ hRN hW (lv_sub hl [2, 3, 4, 5, 6] rfl)
  · refine lv_aload_n hx hb dL_law_1918 rfl (lv_at hl 5 rfl) ?_
    refine lv_iconst (v := (0 : Int32)) hx hb dL_law_1919 (by decide) ?_
    refine ra_72 E hW (vp_in_nI (n := 0) (Nat.le_of_ble_eq_true rfl) (Nat.le_of_ble_eq_true rfl)) dL_law_1920 ?_
    refine lv_iload hx hb dL_law_1921 (lv_at hl 0 rfl) ?_
    refine lv_i2l hx hb dL_law_1923 rfl ?_
    refine W.lcmp hx hb dL_law_1924 ?_
    refine lv_if_eq (tgt := 1930) hx hb dL_law_1925 (by decide) (fun h8 => ?_) (fun h8 => absurd (lcmp_same (ho h9)) h8)
    refine lv_goto (tgt := 2053) hx hb dL_law_1930 (by decide) ?_
    refine W.widen (k := cells + 3) (n := slots + 18) (by omega) (by omega) ?_
    exact hk _ _ _ _ _ _ hRN hW (lv_sub hl [2, 3, 4, 5, 6] rfl)
theorem lk_L_192 : LkV RL 192 yX9_grams cX9_grams 3 (some .int) 2 := ⟨(bigm (inT6 (List.mem_of_getElem? (i := 186) rfl)) rfl), km_X9_grams_inst, km_X9_grams_sel, ki_X9, km_X9_grams_code, by decide +kernel, by decide +kernel, by decide +kernel⟩
set_option maxHeartbeats 4000000 in
set_option maxRecDepth 100000 in
theorem lc_grams (hl0 : l.stackTraces = false) (A : LA X B p s m meth c b L xs) {R : CS → MS → Prop} (hS : H_grams R) {n : Nat} (hn : n + 6 ≤ L) (hR : R cs ms) (hc : cells + 3 ≤ 601024) (hsl : slots + 18 ≤ 7293034) (hW : Ws X B s.heap H locs (cs, ms, o)) (hl : lv_has ls 7 (LLs X b n)) (hk : ∀ (cs' : CS) (ms' : MS) (o' : Nat → Int64) (H' : Heap) (locs' : List Loc) (ls' : Array Slot), R cs' ms' → Ws X B s.heap H' locs' (cs', ms', o') → lv_has ls' 7 (LLs X b n) → W p l e room_1 s m #[Value.ref b] below meth c H' locs' (cells + 3) (slots + 18) Q (F0 m 2053 ls' [])) : W p l e room_1 s m #[Value.ref b] below meth c H locs cells slots Q (F0 m 1933 ls []) := by
  obtain ⟨E, hX, hbl, hB, hL⟩ := A
  obtain ⟨hx, hb, hml, hown, hts, -⟩ := id E
  have hbA : ¬ Ab B b := fun q => absurd (show B ≤ b from q) (by omega)
  replace hl : lv_has ls 7 [(0, .ref b), (1, .ref (X.1 0)), (2, .ref (X.1 7)), (3, .ref (X.1 72)), (4, .int (nI n))] := hl
  obtain ⟨rb, ms9, hf9, r8, cs9, hf8, hA8⟩ := hS cs ms (xs (nI n + (1 : Int32)).toNatClampNeg) (xs (nI n + (2 : Int32)).toNatClampNeg) hR
  have hcd9 : ∀ E, E ∈ (["java/lang/IllegalArgumentException"] : List String) → cd1 E ≠ 0 := by simp [cd1, cd2]
  refine lv_aload_n hx hb dL_law_1933 rfl (lv_at hl 1 rfl) ?_
  refine lv_aload_n hx hb dL_law_1934 rfl (lv_at hl 0 rfl) ?_
  refine lv_iload hx hb dL_law_1935 (lv_at hl 4 rfl) ?_
  refine lv_iconst (v := (1 : Int32)) hx hb dL_law_1937 (by decide) ?_
  refine lv_iadd hx hb dL_law_1938 ?_
  refine va_sld hx hb hX hbl hbA hW.2.2 (sc_in 1 (by decide) hn hL) dL_law_1939 ?_
  refine lv_aload_n hx hb dL_law_1940 rfl (lv_at hl 0 rfl) ?_
  refine lv_iload hx hb dL_law_1941 (lv_at hl 4 rfl) ?_
  refine lv_iconst (v := (2 : Int32)) hx hb dL_law_1943 (by decide) ?_
  refine lv_iadd hx hb dL_law_1944 ?_
  refine va_sld hx hb hX hbl hbA hW.2.2 (sc_in 2 (by decide) hn hL) dL_law_1945 ?_
  refine lv_aload_n hx hb dL_law_1946 rfl (lv_at hl 3 rfl) ?_
  refine callW (As := [.ref _, .int _, .int _, .ref _]) (rest := []) E hW (c_L_grams l (G := (fun (x : Int32 ⊕ String) (u : TS) => r8 = x ∧ u = (cs9, ms, o))) (c_X8_grams l hl0 hf8) (fun E9 t9 h9 => by
    have h8 := (((fun x t h => by obtain ⟨rfl, rfl⟩ := h; exact ⟨hA8, rfl⟩) : ∀ (x : Int32 ⊕ String) (t : TS), (fun (x : Int32 ⊕ String) (u : TS) => r8 = x ∧ u = (cs9, ms, o)) x t → Agr cd1 ["java/lang/IllegalArgumentException"] R rb ms9 x t.1 ∧ t.2.1 = ms) _ _ h9).1.2.2.1 E9 rfl
    simpa using h8)) lw_L_190 (Nat.le_of_ble_eq_true rfl) (Nat.le_of_ble_eq_true rfl) (by show _ ≤ 601024; omega) (by show _ ≤ 7293034; omega) hl.1 (Nat.le_of_ble_eq_true rfl) dL_law_1947 (fun k9 u9 hP H locs hW => ?_)
  obtain ⟨csN, oN, rfl, hkk, ho, hRN⟩ := lpost_out hP hcd9 (fun x t h => by obtain ⟨rfl, rfl⟩ := h; exact ⟨hA8, rfl⟩)
  refine lv_istore (lv' := [_, _, _, _, _, _]) hx hb dL_law_1950 hl (by decide) rfl (fun ls hl => ?_)
  refine lv_aload_n hx hb dL_law_1952 rfl (lv_at hl 3 rfl) ?_
  refine lv_aload_n hx hb dL_law_1953 rfl (lv_at hl 1 rfl) ?_
  refine lv_iload hx hb dL_law_1954 (lv_at hl 5 rfl) ?_
  refine lv_iconst (v := (1 : Int32)) hx hb dL_law_1956 (by decide) ?_
  refine lv_iadd hx hb dL_law_1957 ?_
  refine va_sld hx hb hX hbl hbA hW.2.2 (sc_in 1 (by decide) hn hL) dL_law_1958 ?_
  refine lv_aload_n hx hb dL_law_1959 rfl (lv_at hl 1 rfl) ?_
  refine lv_iload hx hb dL_law_1960 (lv_at hl 5 rfl) ?_
  refine lv_iconst (v := (2 : Int32)) hx hb dL_law_1962 (by decide) ?_
  refine lv_iadd hx hb dL_law_1963 ?_
  refine va_sld hx hb hX hbl hbA hW.2.2 (sc_in 2 (by decide) hn hL) dL_law_1964 ?_
  refine callVI (As := [.int _, .int _]) (rest := []) E hW (c_X9_grams l hf9) lk_L_192 rcv_X9 (Nat.le_of_ble_eq_true rfl) (Nat.le_of_ble_eq_true rfl) (by show _ ≤ 601024; omega) (by show _ ≤ 7293034; omega) hl.1 (Nat.le_of_ble_eq_true rfl) dL_law_1965 (fun H locs hW => ?_)
  refine lv_istore (lv' := [_, _, _, _, _, _, _]) hx hb dL_law_1968 hl (by decide) rfl (fun ls hl => ?_)
  refine lv_aload_n hx hb dL_law_1970 rfl (lv_at hl 4 rfl) ?_
  refine callVI (As := []) (rest := []) E hW (c_X9_thrown l rfl) lk_L_105 rcv_X9 (Nat.le_of_ble_eq_true rfl) (Nat.le_of_ble_eq_true rfl) (by show _ ≤ 601024; omega) (by show _ ≤ 7293034; omega) hl.1 (Nat.le_of_ble_eq_true rfl) dL_law_1971 (fun H locs hW => ?_)
  refine lv_iload hx hb dL_law_1974 (lv_at hl 1 rfl) ?_
  refine lv_icmp_eq (tgt := 1981) hx hb dL_law_1976 (by decide) (fun h9 => ?_) (fun h9 => absurd (by first | exact hkk | exact hkk.symm) h9)
  refine lv_iload hx hb dL_law_1981 (lv_at hl 1 rfl) ?_
  refine lv_if_ne (tgt := 1998) hx hb dL_law_1983 (by decide) (fun h9 => ?_) (fun h9 => ?_)
  · refine lv_goto (tgt := 2053) hx hb dL_law_1998 (by decide) ?_
    refine W.widen (k := cells + 3) (n := slots + 18) (by omega) (by omega) ?_
    exact hk _ _ _ _ _ _ hRN hW (lv_sub hl [2, 3, 4, 5, 6] rfl)
  · refine lv_aload_n hx hb dL_law_1986 rfl (lv_at hl 5 rfl) ?_
    refine lv_iconst (v := (0 : Int32)) hx hb dL_law_1987 (by decide) ?_
    refine ra_72 E hW (vp_in_nI (n := 0) (Nat.le_of_ble_eq_true rfl) (Nat.le_of_ble_eq_true rfl)) dL_law_1988 ?_
    refine lv_iload hx hb dL_law_1989 (lv_at hl 0 rfl) ?_
    refine lv_i2l hx hb dL_law_1991 rfl ?_
    refine W.lcmp hx hb dL_law_1992 ?_
    refine lv_if_eq (tgt := 1998) hx hb dL_law_1993 (by decide) (fun h8 => ?_) (fun h8 => absurd (lcmp_same (ho h9)) h8)
    refine lv_goto (tgt := 2053) hx hb dL_law_1998 (by decide) ?_
    refine W.widen (k := cells + 3) (n := slots + 18) (by omega) (by omega) ?_
    exact hk _ _ _ _ _ _ hRN hW (lv_sub hl [2, 3, 4, 5, 6] rfl)
theorem lk_L_193 : LkV RL 193 yX8_count cX8_count 2 (some .int) 1 := ⟨(bigm (inT1 (List.mem_of_getElem? (i := 227) rfl)) rfl), km_X8_count_inst, km_X8_count_sel, ki_X8, km_X8_count_code, by decide +kernel, by decide +kernel, by decide +kernel⟩
theorem lk_L_196 : LkV RL 196 yX9_count cX9_count 2 (some .int) 1 := ⟨(bigm (inT6 (List.mem_of_getElem? (i := 190) rfl)) rfl), km_X9_count_inst, km_X9_count_sel, ki_X9, km_X9_count_code, by decide +kernel, by decide +kernel, by decide +kernel⟩
set_option maxHeartbeats 4000000 in
set_option maxRecDepth 100000 in
theorem lc_count (hl0 : l.stackTraces = false) (A : LA X B p s m meth c b L xs) {R : CS → MS → Prop} (hS : H_count R) {n : Nat} (hn : n + 6 ≤ L) (hR : R cs ms) (hc : cells + 3 ≤ 601024) (hsl : slots + 18 ≤ 7293034) (hW : Ws X B s.heap H locs (cs, ms, o)) (hl : lv_has ls 7 (LLs X b n)) (hk : ∀ (cs' : CS) (ms' : MS) (o' : Nat → Int64) (H' : Heap) (locs' : List Loc) (ls' : Array Slot), R cs' ms' → Ws X B s.heap H' locs' (cs', ms', o') → lv_has ls' 7 (LLs X b n) → W p l e room_1 s m #[Value.ref b] below meth c H' locs' (cells + 3) (slots + 18) Q (F0 m 2053 ls' [])) : W p l e room_1 s m #[Value.ref b] below meth c H locs cells slots Q (F0 m 2001 ls []) := by
  obtain ⟨E, hX, hbl, hB, hL⟩ := A
  obtain ⟨hx, hb, hml, hown, hts, -⟩ := id E
  have hbA : ¬ Ab B b := fun q => absurd (show B ≤ b from q) (by omega)
  replace hl : lv_has ls 7 [(0, .ref b), (1, .ref (X.1 0)), (2, .ref (X.1 7)), (3, .ref (X.1 72)), (4, .int (nI n))] := hl
  obtain ⟨r8, ms9, hf8, hf9, hRN⟩ := hS cs ms (xs (nI n + (1 : Int32)).toNatClampNeg) hR
  refine lv_aload_n hx hb dL_law_2001 rfl (lv_at hl 1 rfl) ?_
  refine lv_aload_n hx hb dL_law_2002 rfl (lv_at hl 0 rfl) ?_
  refine lv_iload hx hb dL_law_2003 (lv_at hl 4 rfl) ?_
  refine lv_iconst (v := (1 : Int32)) hx hb dL_law_2005 (by decide) ?_
  refine lv_iadd hx hb dL_law_2006 ?_
  refine va_sld hx hb hX hbl hbA hW.2.2 (sc_in 1 (by decide) hn hL) dL_law_2007 ?_
  refine callVI (As := [.int _]) (rest := []) E hW (c_X8_count l hf8) lk_L_193 rcv_X8 (Nat.le_of_ble_eq_true rfl) (Nat.le_of_ble_eq_true rfl) (by show _ ≤ 601024; omega) (by show _ ≤ 7293034; omega) hl.1 (Nat.le_of_ble_eq_true rfl) dL_law_2008 (fun H locs hW => ?_)
  refine lv_aload_n hx hb dL_law_2011 rfl (lv_at hl 2 rfl) ?_
  refine lv_aload_n hx hb dL_law_2012 rfl (lv_at hl 0 rfl) ?_
  refine lv_iload hx hb dL_law_2013 (lv_at hl 4 rfl) ?_
  refine lv_iconst (v := (1 : Int32)) hx hb dL_law_2015 (by decide) ?_
  refine lv_iadd hx hb dL_law_2016 ?_
  refine va_sld hx hb hX hbl hbA hW.2.2 (sc_in 1 (by decide) hn hL) dL_law_2017 ?_
  refine callVI (As := [.int _]) (rest := [.int _]) E hW (c_X9_count l hf9) lk_L_196 rcv_X9 (Nat.le_of_ble_eq_true rfl) (Nat.le_of_ble_eq_true rfl) (by show _ ≤ 601024; omega) (by show _ ≤ 7293034; omega) hl.1 (Nat.le_of_ble_eq_true rfl) dL_law_2018 (fun H locs hW => ?_)
  refine lv_icmp_eq (tgt := 2053) hx hb dL_law_2021 (by decide) (fun h8 => ?_) (fun h8 => absurd rfl h8)
  refine W.widen (k := cells + 3) (n := slots + 18) (by omega) (by omega) ?_
  exact hk _ _ _ _ _ _ hRN hW (lv_sub hl [0, 1, 2, 3, 4] rfl)
theorem lk_L_197 : LkV RL 197 yX8_till cX8_till 1 (some .long) 0 := ⟨(bigm (inT1 (List.mem_of_getElem? (i := 223) rfl)) rfl), km_X8_till_inst, km_X8_till_sel, ki_X8, km_X8_till_code, by decide +kernel, by decide +kernel, by decide +kernel⟩
theorem lk_L_201 : LkV RL 201 yX9_till cX9_till 1 (some .long) 0 := ⟨(bigm (inT6 (List.mem_of_getElem? (i := 194) rfl)) rfl), km_X9_till_inst, km_X9_till_sel, ki_X9, km_X9_till_code, by decide +kernel, by decide +kernel, by decide +kernel⟩
set_option maxHeartbeats 4000000 in
set_option maxRecDepth 100000 in
theorem lc_till (hl0 : l.stackTraces = false) (A : LA X B p s m meth c b L xs) {R : CS → MS → Prop} (hS : H_till R) {n : Nat} (hn : n + 6 ≤ L) (hR : R cs ms) (hc : cells + 3 ≤ 601024) (hsl : slots + 18 ≤ 7293034) (hW : Ws X B s.heap H locs (cs, ms, o)) (hl : lv_has ls 7 (LLs X b n)) (hk : ∀ (cs' : CS) (ms' : MS) (o' : Nat → Int64) (H' : Heap) (locs' : List Loc) (ls' : Array Slot), R cs' ms' → Ws X B s.heap H' locs' (cs', ms', o') → lv_has ls' 7 (LLs X b n) → W p l e room_1 s m #[Value.ref b] below meth c H' locs' (cells + 3) (slots + 18) Q (F0 m 2053 ls' [])) : W p l e room_1 s m #[Value.ref b] below meth c H locs cells slots Q (F0 m 2026 ls []) := by
  obtain ⟨E, hX, hbl, hB, hL⟩ := A
  obtain ⟨hx, hb, hml, hown, hts, -⟩ := id E
  have hbA : ¬ Ab B b := fun q => absurd (show B ≤ b from q) (by omega)
  replace hl : lv_has ls 7 [(0, .ref b), (1, .ref (X.1 0)), (2, .ref (X.1 7)), (3, .ref (X.1 72)), (4, .int (nI n))] := hl
  obtain ⟨r8, ms9, hf8, hf9, hRN⟩ := hS cs ms  hR
  refine lv_aload_n hx hb dL_law_2026 rfl (lv_at hl 1 rfl) ?_
  refine callVJ (As := []) (rest := []) E hW (c_X8_till l hf8) lk_L_197 rcv_X8 (Nat.le_of_ble_eq_true rfl) (Nat.le_of_ble_eq_true rfl) (by show _ ≤ 601024; omega) (by show _ ≤ 7293034; omega) hl.1 (Nat.le_of_ble_eq_true rfl) dL_law_2027 (fun H locs hW => ?_)
  refine lv_aload_n hx hb dL_law_2030 rfl (lv_at hl 2 rfl) ?_
  refine callVJ (As := []) (rest := [.long _]) E hW (c_X9_till l hf9) lk_L_201 rcv_X9 (Nat.le_of_ble_eq_true rfl) (Nat.le_of_ble_eq_true rfl) (by show _ ≤ 601024; omega) (by show _ ≤ 7293034; omega) hl.1 (Nat.le_of_ble_eq_true rfl) dL_law_2031 (fun H locs hW => ?_)
  refine W.lcmp hx hb dL_law_2034 ?_
  refine lv_if_eq (tgt := 2053) hx hb dL_law_2035 (by decide) (fun h8 => ?_) (fun h8 => absurd (lcmp_same rfl) h8)
  refine W.widen (k := cells + 3) (n := slots + 18) (by omega) (by omega) ?_
  exact hk _ _ _ _ _ _ hRN hW (lv_sub hl [0, 1, 2, 3, 4] rfl)
theorem lk_L_202 : LkV RL 202 yX8_undo cX8_undo 4 (some .int) 0 := ⟨(bigm (inT2 (List.mem_of_getElem? (i := 3) rfl)) rfl), km_X8_undo_inst, km_X8_undo_sel, ki_X8, km_X8_undo_code, by decide +kernel, by decide +kernel, by decide +kernel⟩
theorem lk_L_205 : LkV RL 205 yX9_undo cX9_undo 2 (some .int) 0 := ⟨(bigm (inT6 (List.mem_of_getElem? (i := 61) rfl)) rfl), km_X9_undo_inst, km_X9_undo_sel, ki_X9, km_X9_undo_code, by decide +kernel, by decide +kernel, by decide +kernel⟩
set_option maxHeartbeats 4000000 in
set_option maxRecDepth 100000 in
theorem lc_undo (hl0 : l.stackTraces = false) (A : LA X B p s m meth c b L xs) {R : CS → MS → Prop} (hS : H_undo R) {n : Nat} (hn : n + 6 ≤ L) (hR : R cs ms) (hc : cells + 3 ≤ 601024) (hsl : slots + 18 ≤ 7293034) (hW : Ws X B s.heap H locs (cs, ms, o)) (hl : lv_has ls 7 (LLs X b n)) (hk : ∀ (cs' : CS) (ms' : MS) (o' : Nat → Int64) (H' : Heap) (locs' : List Loc) (ls' : Array Slot), R cs' ms' → Ws X B s.heap H' locs' (cs', ms', o') → lv_has ls' 7 (LLs X b n) → W p l e room_1 s m #[Value.ref b] below meth c H' locs' (cells + 3) (slots + 18) Q (F0 m 2053 ls' [])) : W p l e room_1 s m #[Value.ref b] below meth c H locs cells slots Q (F0 m 2040 ls []) := by
  obtain ⟨E, hX, hbl, hB, hL⟩ := A
  obtain ⟨hx, hb, hml, hown, hts, -⟩ := id E
  have hbA : ¬ Ab B b := fun q => absurd (show B ≤ b from q) (by omega)
  replace hl : lv_has ls 7 [(0, .ref b), (1, .ref (X.1 0)), (2, .ref (X.1 7)), (3, .ref (X.1 72)), (4, .int (nI n))] := hl
  obtain ⟨r8, cs9, ms9, hf8, hf9, hRN⟩ := hS cs ms  hR
  refine lv_aload_n hx hb dL_law_2040 rfl (lv_at hl 1 rfl) ?_
  refine callVI (As := []) (rest := []) E hW (c_X8_undo l hf8) lk_L_202 rcv_X8 (Nat.le_of_ble_eq_true rfl) (Nat.le_of_ble_eq_true rfl) (by show _ ≤ 601024; omega) (by show _ ≤ 7293034; omega) hl.1 (Nat.le_of_ble_eq_true rfl) dL_law_2041 (fun H locs hW => ?_)
  refine lv_aload_n hx hb dL_law_2044 rfl (lv_at hl 2 rfl) ?_
  refine callVI (As := []) (rest := [.int _]) E hW (c_X9_undo l hf9) lk_L_205 rcv_X9 (Nat.le_of_ble_eq_true rfl) (Nat.le_of_ble_eq_true rfl) (by show _ ≤ 601024; omega) (by show _ ≤ 7293034; omega) hl.1 (Nat.le_of_ble_eq_true rfl) dL_law_2045 (fun H locs hW => ?_)
  refine lv_icmp_eq (tgt := 2053) hx hb dL_law_2048 (by decide) (fun h8 => ?_) (fun h8 => absurd rfl h8)
  refine W.widen (k := cells + 3) (n := slots + 18) (by omega) (by omega) ?_
  exact hk _ _ _ _ _ _ hRN hW (lv_sub hl [0, 1, 2, 3, 4] rfl)
set_option maxHeartbeats 4000000 in
set_option maxRecDepth 100000 in
theorem law_loop (hl0 : l.stackTraces = false) (A : LA X B p s m meth c b L xs) {R : CS → MS → Prop} (hS : SIM R) {c0 s0 : Nat} (hc0 : c0 + 1539 ≤ 601024) (hs0 : s0 + 9234 ≤ 7293034) : ∀ (k j : Nat), 6 * j ≤ L → 513 ≤ j + k → ∀ (cs : CS) (ms : MS) (o : Nat → Int64) (H : Heap) (locs : List Loc) (ls : Array Slot) (cells slots : Nat), cells = c0 + 3 * j → slots = s0 + 18 * j → R cs ms → Ws X B s.heap H locs (cs, ms, o) → lv_has ls 7 (LLs X b (6 * j)) → W p l e room_1 s m #[Value.ref b] below meth c H locs cells slots (lw_Z below #[Value.ref b] s) (F0 m 23 ls []) := by
  obtain ⟨E, hX, hbl, hB, hL⟩ := id A
  obtain ⟨hx, hb, hml, hown, hts, hK, hr, hlocks, -⟩ := id E
  have hbA : ¬ Ab B b := fun q => absurd (show B ≤ b from q) (by omega)
  obtain ⟨S_sheet, S_row, S_put, S_tear, S_feed, S_fit, S_says, S_part, S_told, S_car, S_about, S_drain, S_papers, S_hinders, S_take, S_press, S_day, S_late, S_item, S_find, S_found, S_sell, S_back, S_best, S_worth, S_grams, S_count, S_till, S_undo⟩ := hS
  intro k
  induction k with
  | zero =>
    intro j h1 h2; exact absurd h2 (by omega)
  | succ k ih =>
    intro j h1 h2 cs ms o H locs ls cells slots hcc hss hR hW hl
    have hl0 := hl0
    replace hl : lv_has ls 7 [(0, .ref b), (1, .ref (X.1 0)), (2, .ref (X.1 7)), (3, .ref (X.1 72)), (4, .int (nI (6 * j)))] := hl
    refine lv_iload hx hb dL_law_23 (lv_at hl 4 rfl) ?_
    refine lv_aload_n hx hb dL_law_25 rfl (lv_at hl 0 rfl) ?_
    refine va_slen hx hb hX hbl hbA hW.2.2 dL_law_26 ?_
    refine lv_bipush (v := (6 : Int32)) hx hb dL_law_27 (by decide) ?_
    refine lv_isub hx hb dL_law_29 ?_
    by_cases hn : 6 * j + 6 ≤ L
    · refine lv_icmp_gt (tgt := 2059) hx hb dL_law_30 (by decide) (fun h9 => absurd h9 (sc_go hL hn)) (fun _ => ?_)
      refine lv_aload_n hx hb dL_law_33 rfl (lv_at hl 0 rfl) ?_
      refine lv_iload hx hb dL_law_34 (lv_at hl 4 rfl) ?_
      refine va_sld hx hb hX hbl hbA hW.2.2 (vp_in_nI (by omega) (by omega)) dL_law_36 ?_
      refine lv_bipush (v := (31 : Int32)) hx hb dL_law_37 (by decide) ?_
      refine lv_iand hx hb dL_law_39 ?_
      refine lv_topi (fun w9 _ => ?_)
      have hk : ∀ (cs' : CS) (ms' : MS) (o' : Nat → Int64) (H' : Heap) (locs' : List Loc) (ls' : Array Slot), R cs' ms' → Ws X B s.heap H' locs' (cs', ms', o') → lv_has ls' 7 (LLs X b (6 * j)) → W p l e room_1 s m #[Value.ref b] below meth c H' locs' (cells + 3) (slots + 18) (lw_Z below #[Value.ref b] s) (F0 m 2053 ls' []) := by
        intro cs1 ms1 o1 H1 locs1 ls1 hR hW hl
        replace hl : lv_has ls1 7 [(0, .ref b), (1, .ref (X.1 0)), (2, .ref (X.1 7)), (3, .ref (X.1 72)), (4, .int (nI (6 * j)))] := hl
        refine lv_iinc (v := nI (6 * (j + 1))) (lv' := [_, _, _, _, _]) hx hb dL_law_2053 hl (k := 4) rfl (nI_add (6 * j) 6) (by decide) rfl (fun ls hl => ?_)
        refine lv_goto (tgt := 23) hx hb dL_law_2056 (by decide) ?_
        exact ih (j + 1) (by omega) (by omega) _ _ _ _ _ ls _ _ (by omega) (by omega) hR hW (lv_sub hl [1, 2, 3, 4, 0] rfl)
      by_cases h0 : w9 = (0 : Int32)
      · refine lv_tableIn (tgt := 172) hx hb dL_law_40 (by rw [h0]; decide) (by rw [h0]; decide) (by rw [h0]; rfl) (by decide) ?_
        exact lc_sheet hl0 A S_sheet hn hR (by omega) (by omega) hW hl hk
      by_cases h1 : w9 = (1 : Int32)
      · refine lv_tableIn (tgt := 228) hx hb dL_law_40 (by rw [h1]; decide) (by rw [h1]; decide) (by rw [h1]; rfl) (by decide) ?_
        exact lc_row hl0 A S_row hn hR (by omega) (by omega) hW hl hk
      by_cases h2 : w9 = (2 : Int32)
      · refine lv_tableIn (tgt := 308) hx hb dL_law_40 (by rw [h2]; decide) (by rw [h2]; decide) (by rw [h2]; rfl) (by decide) ?_
        exact lc_put hl0 A S_put hn hR (by omega) (by omega) hW hl hk
      by_cases h3 : w9 = (3 : Int32)
      · refine lv_tableIn (tgt := 432) hx hb dL_law_40 (by rw [h3]; decide) (by rw [h3]; decide) (by rw [h3]; rfl) (by decide) ?_
        exact lc_tear hl0 A S_tear hn hR (by omega) (by omega) hW hl hk
      by_cases h4 : w9 = (4 : Int32)
      · refine lv_tableIn (tgt := 500) hx hb dL_law_40 (by rw [h4]; decide) (by rw [h4]; decide) (by rw [h4]; rfl) (by decide) ?_
        exact lc_feed hl0 A S_feed hn hR (by omega) (by omega) hW hl hk
      by_cases h5 : w9 = (5 : Int32)
      · refine lv_tableIn (tgt := 573) hx hb dL_law_40 (by rw [h5]; decide) (by rw [h5]; decide) (by rw [h5]; rfl) (by decide) ?_
        exact lc_fit hl0 A S_fit hn hR (by omega) (by omega) hW hl hk
      by_cases h6 : w9 = (6 : Int32)
      · refine lv_tableIn (tgt := 629) hx hb dL_law_40 (by rw [h6]; decide) (by rw [h6]; decide) (by rw [h6]; rfl) (by decide) ?_
        exact lc_says hl0 A S_says hn hR (by omega) (by omega) hW hl hk
      by_cases h7 : w9 = (7 : Int32)
      · refine lv_tableIn (tgt := 728) hx hb dL_law_40 (by rw [h7]; decide) (by rw [h7]; decide) (by rw [h7]; rfl) (by decide) ?_
        exact lc_part hl0 A S_part hn hR (by omega) (by omega) hW hl hk
      by_cases h8 : w9 = (8 : Int32)
      · refine lv_tableIn (tgt := 808) hx hb dL_law_40 (by rw [h8]; decide) (by rw [h8]; decide) (by rw [h8]; rfl) (by decide) ?_
        exact lc_told hl0 A S_told hn hR (by omega) (by omega) hW hl hk
      by_cases h9 : w9 = (9 : Int32)
      · refine lv_tableIn (tgt := 888) hx hb dL_law_40 (by rw [h9]; decide) (by rw [h9]; decide) (by rw [h9]; rfl) (by decide) ?_
        exact lc_car hl0 A S_car hn hR (by omega) (by omega) hW hl hk
      by_cases h10 : w9 = (10 : Int32)
      · refine lv_tableIn (tgt := 980) hx hb dL_law_40 (by rw [h10]; decide) (by rw [h10]; decide) (by rw [h10]; rfl) (by decide) ?_
        exact lc_about hl0 A S_about hn hR (by omega) (by omega) hW hl hk
      by_cases h11 : w9 = (11 : Int32)
      · refine lv_tableIn (tgt := 1048) hx hb dL_law_40 (by rw [h11]; decide) (by rw [h11]; decide) (by rw [h11]; rfl) (by decide) ?_
        exact lc_drain hl0 A S_drain hn hR (by omega) (by omega) hW hl hk
      by_cases h12 : w9 = (12 : Int32)
      · refine lv_tableIn (tgt := 1104) hx hb dL_law_40 (by rw [h12]; decide) (by rw [h12]; decide) (by rw [h12]; rfl) (by decide) ?_
        exact lc_papers hl0 A S_papers hn hR (by omega) (by omega) hW hl hk
      by_cases h13 : w9 = (13 : Int32)
      · refine lv_tableIn (tgt := 1160) hx hb dL_law_40 (by rw [h13]; decide) (by rw [h13]; decide) (by rw [h13]; rfl) (by decide) ?_
        exact lc_hinders hl0 A S_hinders hn hR (by omega) (by omega) hW hl hk
      by_cases h14 : w9 = (14 : Int32)
      · refine lv_tableIn (tgt := 1228) hx hb dL_law_40 (by rw [h14]; decide) (by rw [h14]; decide) (by rw [h14]; rfl) (by decide) ?_
        exact lc_take hl0 A S_take hn hR (by omega) (by omega) hW hl hk
      by_cases h15 : w9 = (15 : Int32)
      · refine lv_tableIn (tgt := 1296) hx hb dL_law_40 (by rw [h15]; decide) (by rw [h15]; decide) (by rw [h15]; rfl) (by decide) ?_
        exact lc_press hl0 A S_press hn hR (by omega) (by omega) hW hl hk
      by_cases h16 : w9 = (16 : Int32)
      · refine lv_tableIn (tgt := 1352) hx hb dL_law_40 (by rw [h16]; decide) (by rw [h16]; decide) (by rw [h16]; rfl) (by decide) ?_
        exact lc_day hl0 A S_day hn hR (by omega) (by omega) hW hl hk
      by_cases h17 : w9 = (17 : Int32)
      · refine lv_tableIn (tgt := 1408) hx hb dL_law_40 (by rw [h17]; decide) (by rw [h17]; decide) (by rw [h17]; rfl) (by decide) ?_
        exact lc_late hl0 A S_late hn hR (by omega) (by omega) hW hl hk
      by_cases h18 : w9 = (18 : Int32)
      · refine lv_tableIn (tgt := 1476) hx hb dL_law_40 (by rw [h18]; decide) (by rw [h18]; decide) (by rw [h18]; rfl) (by decide) ?_
        exact lc_item hl0 A S_item hn hR (by omega) (by omega) hW hl hk
      by_cases h19 : w9 = (19 : Int32)
      · refine lv_tableIn (tgt := 1544) hx hb dL_law_40 (by rw [h19]; decide) (by rw [h19]; decide) (by rw [h19]; rfl) (by decide) ?_
        exact lc_find hl0 A S_find hn hR (by omega) (by omega) hW hl hk
      by_cases h20 : w9 = (20 : Int32)
      · refine lv_tableIn (tgt := 1636) hx hb dL_law_40 (by rw [h20]; decide) (by rw [h20]; decide) (by rw [h20]; rfl) (by decide) ?_
        exact lc_found hl0 A S_found hn hR (by omega) (by omega) hW hl hk
      by_cases h21 : w9 = (21 : Int32)
      · refine lv_tableIn (tgt := 1661) hx hb dL_law_40 (by rw [h21]; decide) (by rw [h21]; decide) (by rw [h21]; rfl) (by decide) ?_
        exact lc_sell hl0 A S_sell hn hR (by omega) (by omega) hW hl hk
      by_cases h22 : w9 = (22 : Int32)
      · refine lv_tableIn (tgt := 1729) hx hb dL_law_40 (by rw [h22]; decide) (by rw [h22]; decide) (by rw [h22]; rfl) (by decide) ?_
        exact lc_back hl0 A S_back hn hR (by omega) (by omega) hW hl hk
      by_cases h23 : w9 = (23 : Int32)
      · refine lv_tableIn (tgt := 1797) hx hb dL_law_40 (by rw [h23]; decide) (by rw [h23]; decide) (by rw [h23]; rfl) (by decide) ?_
        exact lc_best hl0 A S_best hn hR (by omega) (by omega) hW hl hk
      by_cases h24 : w9 = (24 : Int32)
      · refine lv_tableIn (tgt := 1865) hx hb dL_law_40 (by rw [h24]; decide) (by rw [h24]; decide) (by rw [h24]; rfl) (by decide) ?_
        exact lc_worth hl0 A S_worth hn hR (by omega) (by omega) hW hl hk
      by_cases h25 : w9 = (25 : Int32)
      · refine lv_tableIn (tgt := 1933) hx hb dL_law_40 (by rw [h25]; decide) (by rw [h25]; decide) (by rw [h25]; rfl) (by decide) ?_
        exact lc_grams hl0 A S_grams hn hR (by omega) (by omega) hW hl hk
      by_cases h26 : w9 = (26 : Int32)
      · refine lv_tableIn (tgt := 2001) hx hb dL_law_40 (by rw [h26]; decide) (by rw [h26]; decide) (by rw [h26]; rfl) (by decide) ?_
        exact lc_count hl0 A S_count hn hR (by omega) (by omega) hW hl hk
      by_cases h27 : w9 = (27 : Int32)
      · refine lv_tableIn (tgt := 2026) hx hb dL_law_40 (by rw [h27]; decide) (by rw [h27]; decide) (by rw [h27]; rfl) (by decide) ?_
        exact lc_till hl0 A S_till hn hR (by omega) (by omega) hW hl hk
      by_cases h28 : w9 = (28 : Int32)
      · refine lv_tableIn (tgt := 2040) hx hb dL_law_40 (by rw [h28]; decide) (by rw [h28]; decide) (by rw [h28]; rfl) (by decide) ?_
        exact lc_undo hl0 A S_undo hn hR (by omega) (by omega) hW hl hk
      have e0 := lv_neT h0 (a := 0) (by decide)
      have e1 := lv_neT h1 (a := 1) (by decide)
      have e2 := lv_neT h2 (a := 2) (by decide)
      have e3 := lv_neT h3 (a := 3) (by decide)
      have e4 := lv_neT h4 (a := 4) (by decide)
      have e5 := lv_neT h5 (a := 5) (by decide)
      have e6 := lv_neT h6 (a := 6) (by decide)
      have e7 := lv_neT h7 (a := 7) (by decide)
      have e8 := lv_neT h8 (a := 8) (by decide)
      have e9 := lv_neT h9 (a := 9) (by decide)
      have e10 := lv_neT h10 (a := 10) (by decide)
      have e11 := lv_neT h11 (a := 11) (by decide)
      have e12 := lv_neT h12 (a := 12) (by decide)
      have e13 := lv_neT h13 (a := 13) (by decide)
      have e14 := lv_neT h14 (a := 14) (by decide)
      have e15 := lv_neT h15 (a := 15) (by decide)
      have e16 := lv_neT h16 (a := 16) (by decide)
      have e17 := lv_neT h17 (a := 17) (by decide)
      have e18 := lv_neT h18 (a := 18) (by decide)
      have e19 := lv_neT h19 (a := 19) (by decide)
      have e20 := lv_neT h20 (a := 20) (by decide)
      have e21 := lv_neT h21 (a := 21) (by decide)
      have e22 := lv_neT h22 (a := 22) (by decide)
      have e23 := lv_neT h23 (a := 23) (by decide)
      have e24 := lv_neT h24 (a := 24) (by decide)
      have e25 := lv_neT h25 (a := 25) (by decide)
      have e26 := lv_neT h26 (a := 26) (by decide)
      have e27 := lv_neT h27 (a := 27) (by decide)
      have e28 := lv_neT h28 (a := 28) (by decide)
      refine lv_tableOut (tgt := 2053) hx hb dL_law_40 (by omega) (by decide) ?_
      refine W.widen (k := cells + 3) (n := slots + 18) (by omega) (by omega) ?_
      exact hk _ _ _ _ _ _ hR hW hl
    · refine lv_icmp_gt (tgt := 2059) hx hb dL_law_30 (by decide) (fun _ => ?_) (fun h9 => absurd (sc_end hL h1 (by omega) hn) h9)
      refine lv_iconst (v := (1 : Int32)) hx hb dL_law_2059 (by decide) ?_
      refine va_forget (fun q hq => by rw [← hB]; exact hW.2.2.2.2 q hq) ?_
      refine W.widen (k := 601024) (n := 7293034) (by omega) (by omega) ?_
      exact lw_ret hx hb hr hlocks dL_law_2060
end LAWLOOP

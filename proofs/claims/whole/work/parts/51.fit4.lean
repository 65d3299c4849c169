/-! ===== fit: the reference's pile ===== -/
def Tp (P : Nat → Prop) (W : List Nat) : Prop := W = [] ∨ ∃ U x, W = U ++ [x] ∧ P x
theorem Tp_imp {P Q : Nat → Prop} {W : List Nat} (h : ∀ x, P x → Q x) (hW : Tp P W) : Tp Q W := by
  rcases hW with hW | ⟨U, x, e, hx⟩
  · exact Or.inl hW
  · exact Or.inr ⟨U, x, e, h x hx⟩
def sN (j : Nat) : List (Nat × Nat × Nat) := List.replicate j (3, 0, 0)
def pA (a : Bool) : List Nat := if a = true then [4] else []
def pO (a : Bool) : List Nat := if a = true then [5] else []
def sA (a : Bool) : List (Nat × Nat × Nat) := if a = true then [(4, 0, 0)] else []
def sO (a : Bool) : List (Nat × Nat × Nat) := if a = true then [(5, 0, 0)] else []
theorem e35 {m : MS} {p c o : Nat} {e : Int32} {X : RW} : ma (mK m p e c o X) 35 = X.2.2.2.2 := rfl
theorem e7 {m : MS} {p c o : Nat} {e : Int32} {X : RW} : mi (mK m p e c o X) 7 = nI c := rfl
theorem e8' {m : MS} {p c o : Nat} {e : Int32} {X : RW} : mi (mK m p e c o X) 8 = nI o := rfl
theorem e5' {m : MS} {p c o : Nat} {e : Int32} {X : RW} : mi (mK m p e c o X) 5 = nI p := rfl
theorem nle0 {k : Nat} (h : k + 1 < 2 ^ 31) : ¬ nI (k + 1) ≤ 0 := nI_ge (a := 0) (by omega) h
theorem sub1 {k : Nat} : nI (k + 1) - 1 = nI k := by rw [nI_sub1 (by omega)]; rfl
theorem nots_loop {b : CS} {m : MS} {T : Nat → Nat} {L f : Nat} (hT : Tap b m T L f) {p : Nat} {e : Int32} {V : List Nat} (hV : Tp (fun x => x ≠ 3 ∧ x < 10) V) : ∀ (j n o : Nat) (X : RW) (s : List (Nat × Nat × Nat)), Em m f X s (V ++ List.replicate j 3) → V.length + j ≤ 105 → j + 1 ≤ n → j ≤ o → o < 1000 → s.length + j ≤ 100 → ∃ X', f_X9_nots_0 n (mK m p e (V.length + j) o X) = some (mK m p e V.length (o - j) X') ∧ Em m f X' (s ++ sN j) V := by
  intro j
  induction j with
  | zero =>
    intro n o X s hE h1 h2 h3 ho h4
    obtain ⟨n', rfl⟩ : ∃ n', n = n' + 1 := ⟨n - 1, by omega⟩
    have hE' : Em m f X s V := by
      have : V ++ List.replicate 0 3 = V := List.append_nil V
      rw [this] at hE; exact hE
    refine ⟨X, ?_, by unfold sN; rw [List.replicate_zero, List.append_nil]; exact hE'⟩
    rw [f_X9_nots_0, e7, Nat.add_zero, Nat.sub_zero]
    rcases hV with rfl | ⟨U, x, rfl, hx, hx2⟩
    · rw [if_pos (show nI ([] : List Nat).length ≤ 0 by decide)]
    · have hl : (U ++ [x]).length = U.length + 1 := by rw [List.length_append]; rfl
      rw [hl] at h1 ⊢
      rw [if_neg (nle0 (by omega)), sub1, ldI_n (by omega) (by omega), some_bind, e35, Em_top hE', if_neg (show ¬ nI x = 3 from fun y => hx (nI_inj (b := 3) (by omega) (by omega) y))]
  | succ j ih =>
    intro n o X s hE h1 h2 h3 ho h4
    obtain ⟨n', rfl⟩ : ∃ n', n = n' + 1 := ⟨n - 1, by omega⟩
    rw [List.replicate_succ', ← List.append_assoc] at hE
    have ht := Em_top hE
    have hl : (V ++ List.replicate j 3).length = V.length + j := by rw [List.length_append, List.length_replicate]
    rw [hl] at ht
    obtain ⟨X1, ee, hE1⟩ := e_emit hT (p := p) (c := V.length + (j + 1)) (o := o) (e := e) (Em_pop hE) (by omega) 3 0 0
    have eo : nI o - 1 = nI (o - 1) := nI_sub1 (by omega)
    rw [f_X9_nots_0, e7, show V.length + (j + 1) = (V.length + j) + 1 by omega, if_neg (nle0 (by omega)), sub1, ldI_n (by omega) (by omega), some_bind, e35, ht, if_pos (show nI 3 = 3 from rfl)]
    rw [show f_X9_emit (mK m p e (V.length + j + 1) o X) 3 0 0 = some (mK m p e (V.length + j + 1) o X1) from ee, some_bind, e7, sub1, mK_7, e8', eo, mK_8]
    obtain ⟨X', r1, r2⟩ := ih n' (o - 1) X1 (s ++ [(3, 0, 0)]) hE1 (by omega) (by omega) (by omega) (by omega) (by rw [List.length_append]; show s.length + 1 + j ≤ 100; omega)
    refine ⟨X', ?_, ?_⟩
    · rw [r1, show o - 1 - j = o - (j + 1) by omega]
    · unfold sN at r2 ⊢
      rw [List.append_assoc] at r2
      exact r2
theorem nots_n {b : CS} {m : MS} {T : Nat → Nat} {L f : Nat} (hT : Tap b m T L f) {p : Nat} {e : Int32} {V : List Nat} (hV : Tp (fun x => x ≠ 3 ∧ x < 10) V) {j o : Nat} {X : RW} {s : List (Nat × Nat × Nat)} (hE : Em m f X s (V ++ List.replicate j 3)) (h1 : V.length + j ≤ 105) (h3 : j ≤ o) (ho : o < 1000) (h4 : s.length + j ≤ 100) : ∃ X', f_X9_nots (mK m p e (V.length + j) o X) = some (mK m p e V.length (o - j) X') ∧ Em m f X' (s ++ sN j) V :=
  nots_loop hT hV j 1000 o X s hE h1 (by omega) h3 ho h4
theorem settle_stop {m : MS} {f : Nat} {p o v : Nat} {e : Int32} {W : List Nat} {X : RW} {s : List (Nat × Nat × Nat)} (hE : Em m f X s W) (hv : v < 10) (hW : Tp (fun x => x < 10 ∧ x ≠ 4 ∧ (x = 5 → v ≠ 5)) W) (h1 : W.length ≤ 105) (n : Nat) : f_X9_settle_0 (n + 1) (mK m p e W.length o X) (nI v) = some (mK m p e W.length o X) := by
  rw [f_X9_settle_0, e7]
  rcases hW with rfl | ⟨U, x, rfl, hx, hx4, hx5⟩
  · rw [if_pos (show nI ([] : List Nat).length ≤ 0 by decide)]
  · have hl : (U ++ [x]).length = U.length + 1 := by rw [List.length_append]; rfl
    rw [hl] at h1 ⊢
    rw [if_neg (nle0 (by omega)), sub1, ldI_n (by omega) (by omega), some_bind, e35, Em_top hE, if_neg (show ¬ nI x = 4 from fun y => hx4 (nI_inj (b := 4) (by omega) (by omega) y)), some_bind]
    by_cases x5 : x = 5
    · rw [if_pos (show nI x = 5 by rw [x5]; rfl), if_neg (show ¬ nI v = 5 from fun y => hx5 x5 (nI_inj (b := 5) (by omega) (by omega) y))]
    · rw [if_neg (show ¬ nI x = 5 from fun y => x5 (nI_inj (b := 5) (by omega) (by omega) y))]
theorem settle_pop {b : CS} {m : MS} {T : Nat → Nat} {L f : Nat} (hT : Tap b m T L f) {p o v x : Nat} {e : Int32} {W : List Nat} {X : RW} {s : List (Nat × Nat × Nat)} (hE : Em m f X s (W ++ [x])) (hx : x = 4 ∨ (x = 5 ∧ v = 5)) (h1 : W.length ≤ 105) (hs : s.length ≤ 100) (n : Nat) : ∃ X', f_X9_settle_0 (n + 1) (mK m p e (W.length + 1) o X) (nI v) = f_X9_settle_0 n (mK m p e W.length o X') (nI v) ∧ Em m f X' (s ++ [(x, 0, 0)]) W := by
  obtain ⟨X', ee, hE'⟩ := e_emit hT (p := p) (c := W.length + 1) (o := o) (e := e) (Em_pop hE) hs x 0 0
  refine ⟨X', ?_, hE'⟩
  rw [f_X9_settle_0, e7, if_neg (nle0 (by omega)), sub1, ldI_n (by omega) (by omega), some_bind, some_bind, some_bind, e35, Em_top hE]
  rcases hx with rfl | ⟨rfl, rfl⟩
  · rw [if_pos (show nI 4 = 4 from rfl), show f_X9_emit (mK m p e (W.length + 1) o X) (nI 4) 0 0 = _ from ee, some_bind, e7, sub1, mK_7]
  · rw [if_neg (show ¬ nI 5 = 4 by decide), if_pos (show nI 5 = 5 from rfl), if_pos (show nI 5 = 5 from rfl), show f_X9_emit (mK m p e (W.length + 1) o X) (nI 5) 0 0 = _ from ee, some_bind, e7, sub1, mK_7]
theorem settle4 {b : CS} {m : MS} {T : Nat → Nat} {L f : Nat} (hT : Tap b m T L f) {p o : Nat} {e : Int32} {W : List Nat} {a : Bool} {X : RW} {s : List (Nat × Nat × Nat)} (hE : Em m f X s (W ++ pA a)) (hW : Tp (fun x => x < 10 ∧ x ≠ 4) W) (h1 : W.length ≤ 105) (hs : s.length ≤ 100) : ∃ X', f_X9_settle (mK m p e (W ++ pA a).length o X) 4 = some (mK m p e W.length o X') ∧ Em m f X' (s ++ sA a) W := by
  have hW' : Tp (fun x => x < 10 ∧ x ≠ 4 ∧ (x = 5 → 4 ≠ 5)) W := Tp_imp (fun x h => ⟨h.1, h.2, fun _ => by decide⟩) hW
  unfold f_X9_settle
  cases a with
  | false =>
    have e1 : W ++ pA false = W := List.append_nil W
    have e2 : s ++ sA false = s := List.append_nil s
    rw [e1] at hE ⊢
    rw [e2]
    exact ⟨X, settle_stop hE (v := 4) (by omega) hW' h1 999, hE⟩
  | true =>
    have hl : (W ++ pA true).length = W.length + 1 := by rw [List.length_append]; rfl
    obtain ⟨X1, r1, r2⟩ := settle_pop hT (p := p) (o := o) (e := e) (v := 4) (W := W) (x := 4) hE (Or.inl rfl) h1 hs 999
    rw [hl]
    exact ⟨X1, r1.trans (settle_stop r2 (v := 4) (by omega) hW' h1 998), r2⟩
theorem settle5 {b : CS} {m : MS} {T : Nat → Nat} {L f : Nat} (hT : Tap b m T L f) {p o : Nat} {e : Int32} {V : List Nat} {a c : Bool} {X : RW} {s : List (Nat × Nat × Nat)} (hE : Em m f X s (V ++ pO c ++ pA a)) (hV : Tp (fun x => x < 10 ∧ x ≠ 4 ∧ x ≠ 5) V) (h1 : V.length ≤ 104) (hs : s.length + (sA a).length + (sO c).length ≤ 101) : ∃ X', f_X9_settle (mK m p e (V ++ pO c ++ pA a).length o X) 5 = some (mK m p e V.length o X') ∧ Em m f X' (s ++ sA a ++ sO c) V := by
  have hV' : Tp (fun x => x < 10 ∧ x ≠ 4 ∧ (x = 5 → 5 ≠ 5)) V := Tp_imp (fun x h => ⟨h.1, h.2.1, fun y => absurd y h.2.2⟩) hV
  unfold f_X9_settle
  -- the OR behind the AND
  have orr : ∀ (n : Nat) (X : RW) (s : List (Nat × Nat × Nat)), Em m f X s (V ++ pO c) → s.length + (sO c).length ≤ 101 → ∃ X', f_X9_settle_0 (n + 2) (mK m p e (V ++ pO c).length o X) (nI 5) = some (mK m p e V.length o X') ∧ Em m f X' (s ++ sO c) V := by
    intro n X s hE hs
    cases c with
    | false =>
      have e1 : V ++ pO false = V := List.append_nil V
      have e2 : s ++ sO false = s := List.append_nil s
      rw [e1] at hE ⊢
      rw [e2]
      exact ⟨X, settle_stop hE (v := 5) (by omega) hV' (by omega) (n + 1), hE⟩
    | true =>
      have hl : (V ++ pO true).length = V.length + 1 := by rw [List.length_append]; rfl
      obtain ⟨X1, r1, r2⟩ := settle_pop hT (p := p) (o := o) (e := e) (v := 5) (W := V) (x := 5) hE (Or.inr ⟨rfl, rfl⟩) (by omega) (by have : (sO true).length = 1 := rfl; omega) (n + 1)
      rw [hl]
      exact ⟨X1, r1.trans (settle_stop r2 (v := 5) (by omega) hV' (by omega) n), r2⟩
  have hlO : (V ++ pO c).length ≤ 105 := by
    rw [List.length_append]
    cases c
    · show V.length + 0 ≤ 105; omega
    · show V.length + 1 ≤ 105; omega
  cases a with
  | false =>
    have e1 : V ++ pO c ++ pA false = V ++ pO c := List.append_nil _
    have e2 : s ++ sA false = s := List.append_nil s
    rw [e1] at hE ⊢
    rw [e2]
    exact orr 998 X s hE (by have : (sA false).length = 0 := rfl; omega)
  | true =>
    have hl : (V ++ pO c ++ pA true).length = (V ++ pO c).length + 1 := by rw [List.length_append]; rfl
    obtain ⟨X1, r1, r2⟩ := settle_pop hT (p := p) (o := o) (e := e) (v := 5) (W := V ++ pO c) (x := 4) hE (Or.inl rfl) hlO (by have : (sA true).length = 1 := rfl; omega) 999
    rw [hl]
    obtain ⟨X2, r3, r4⟩ := orr 997 X1 (s ++ [(4, 0, 0)]) r2 (by rw [List.length_append]; have : (sA true).length = 1 := rfl; show s.length + 1 + (sO c).length ≤ 101; omega)
    exact ⟨X2, r1.trans r3, r4⟩
/-! ===== the reference's rounds ===== -/
theorem rd_err {m : MS} {p c o e k : Nat} {X : RW} {v2 v3 : Int32} (he : e < 2 ^ 31) : f_X9_fit_76 (k + 1) (mK m p (nI e) c o X) v2 v3 = some (-2 - nI e, mK m p (nI e) c o X) := by
  rw [f_X9_fit_76]
  unfold f_X9_fit_333
  rw [fine_0 he, some_bind, some_bind, if_pos rfl, show mi (mK m p (nI e) c o X) 6 = nI e from rfl]
  by_cases h : v3 = 0
  · rw [if_pos h]
  · rw [if_neg h, if_pos rfl]
theorem rd_good {m : MS} {p p' c o k : Nat} {X X' : RW} (h : f_X9_operand (mK m p (-1) c o X) = some (1, mK m p' (-1) c o X')) : f_X9_fit_76 (k + 1) (mK m p (-1) c o X) 1 1 = (f_X9_nots (mK m p' (-1) c o X')).bind fun z => f_X9_fit_76 k z 0 1 := by
  rw [f_X9_fit_76, if_neg one_ne, fine_1, some_bind, if_neg one_ne, if_neg one_ne, h, b2_some, if_neg one_ne]
  unfold f_X9_fit_103
  rw [if_pos rfl]
theorem rd_bad {m : MS} {p p' c o e k : Nat} {X : RW} (he : e < 2 ^ 31) (h : f_X9_operand (mK m p (-1) c o X) = some (0, mK m p' (nI e) c o X)) : f_X9_fit_76 (k + 2) (mK m p (-1) c o X) 1 1 = some (-2 - nI e, mK m p' (nI e) c o X) := by
  rw [f_X9_fit_76, if_neg one_ne, fine_1, some_bind, if_neg one_ne, if_neg one_ne, h, b2_some, if_pos rfl]
  unfold f_X9_fit_103
  rw [if_neg one_ne]
  exact rd_err he
theorem rd_push {b : CS} {m : MS} {T : Nat → Nat} {L f : Nat} (hT : Tap b m T L f) {p q o k x y : Nat} {X : RW} {r : List (Nat × Nat × Nat)} {W : List Nat} (h : Sk T L p q) (hq : q < L) (hx : (T q = 33 ∧ y = 3) ∨ (T q = 40 ∧ y = 6)) (ho : o < 20) (hE : Em m f X r W) (hW : W.length ≤ 105) : ∃ X', f_X9_fit_76 (k + 1) (mK m p (-1) W.length o X) 1 1 = f_X9_fit_76 k (mK m (q + 1) (-1) (W.length + 1) (o + 1) X') 1 1 ∧ Em m f X' r (W ++ [y]) := by
  have hL := hT.1
  have e17 : ∀ v, ((v = 33 ∧ y = 3) ∨ (v = 40 ∧ y = 6)) → f_X9_operand_17 (mK m q (-1) W.length o X) (nI v) = some (0, mK m (q + 1) (-1) (W.length + 1) (o + 1) (X.1, X.2.1, X.2.2.1, X.2.2.2.1, upd X.2.2.2.2 W.length (nI y))) := by
    intro v hv
    unfold f_X9_operand_17 f_X9_operand_62
    rw [e8', if_neg (show ¬ nI o = 20 from fun z => by have := nI_inj (b := 20) (by omega) (by omega) z; omega), nI_1, mK_8, e7]
    rcases hv with ⟨rfl, rfl⟩ | ⟨rfl, rfl⟩
    · rw [if_pos (show nI 33 = 33 from rfl), ixr_n (by omega) (by omega), nI_clamp (by omega), show (3 : Int32) = nI 3 from rfl, mK_35, e7, nI_1, mK_7, e5', nI_1, mK_5]
    · rw [if_neg (show ¬ nI 40 = 33 by decide), ixr_n (by omega) (by omega), nI_clamp (by omega), show (6 : Int32) = nI 6 from rfl, mK_35, e7, nI_1, mK_7, e5', nI_1, mK_5]
  refine ⟨_, ?_, Em_push y hE⟩
  have eop : f_X9_operand (mK m p (-1) W.length o X) = some (0, mK m (q + 1) (-1) (W.length + 1) (o + 1) (X.1, X.2.1, X.2.2.1, X.2.2.2.1, upd X.2.2.2.2 W.length (nI y))) := by
    unfold f_X9_operand
    rw [e_here hT h, b2_some]
    rcases hx with ⟨hx, hy⟩ | ⟨hx, hy⟩
    · have eb : bM T L q = nI 33 := (bM_eq hT (by omega) (by omega)).mpr ⟨hq, hx⟩
      rw [eb, if_pos (show nI 33 = 33 from rfl)]
      exact e17 33 (Or.inl ⟨rfl, hy⟩)
    · have eb : bM T L q = nI 40 := (bM_eq hT (by omega) (by omega)).mpr ⟨hq, hx⟩
      rw [eb, if_neg (show ¬ nI 40 = 33 by decide), if_pos (show nI 40 = 40 from rfl)]
      exact e17 40 (Or.inr ⟨rfl, hy⟩)
  rw [f_X9_fit_76, if_neg one_ne, fine_1, some_bind, if_neg one_ne, if_neg one_ne, eop, b2_some, if_pos rfl]
  unfold f_X9_fit_103
  rw [if_neg one_ne]
theorem rd_and {b : CS} {m : MS} {T : Nat → Nat} {L f : Nat} (hT : Tap b m T L f) {p q o k : Nat} {X : RW} {s : List (Nat × Nat × Nat)} {W : List Nat} {a : Bool} (h : Sk T L p q) (hq : q < L) (hx : T q = 38) (hE : Em m f X s (W ++ pA a)) (hW : Tp (fun x => x < 10 ∧ x ≠ 4) W) (h1 : W.length ≤ 105) (hs : s.length ≤ 100) : ∃ X', f_X9_fit_76 (k + 1) (mK m p (-1) (W ++ pA a).length o X) 0 1 = f_X9_fit_76 k (mK m (q + 1) (-1) (W.length + 1) o X') 1 1 ∧ Em m f X' (s ++ sA a) (W ++ [4]) := by
  have hL := hT.1
  obtain ⟨X1, r1, r2⟩ := settle4 hT (p := q) (o := o) (e := -1) hE hW h1 hs
  have eb : bM T L q = nI 38 := (bM_eq hT (by omega) (by omega)).mpr ⟨hq, hx⟩
  refine ⟨_, ?_, Em_push 4 r2⟩
  rw [f_X9_fit_76, if_neg one_ne, fine_1, some_bind, if_neg one_ne, if_pos rfl, e_here hT h, b2_some, eb, if_pos (show nI 38 = 38 from rfl), r1, some_bind, e7, ixr_n (by omega) (by omega), nI_clamp (by omega), show (4 : Int32) = nI 4 from rfl, mK_35, e7, nI_1, mK_7, e5', nI_1, mK_5]
  rfl
theorem rd_or {b : CS} {m : MS} {T : Nat → Nat} {L f : Nat} (hT : Tap b m T L f) {p q o k : Nat} {X : RW} {s : List (Nat × Nat × Nat)} {V : List Nat} {a c : Bool} (h : Sk T L p q) (hq : q < L) (hx : T q = 124) (hE : Em m f X s (V ++ pO c ++ pA a)) (hV : Tp (fun x => x < 10 ∧ x ≠ 4 ∧ x ≠ 5) V) (h1 : V.length ≤ 104) (hs : s.length + (sA a).length + (sO c).length ≤ 101) : ∃ X', f_X9_fit_76 (k + 1) (mK m p (-1) (V ++ pO c ++ pA a).length o X) 0 1 = f_X9_fit_76 k (mK m (q + 1) (-1) (V.length + 1) o X') 1 1 ∧ Em m f X' (s ++ sA a ++ sO c) (V ++ [5]) := by
  have hL := hT.1
  obtain ⟨X1, r1, r2⟩ := settle5 hT (p := q) (o := o) (e := -1) hE hV h1 hs
  have eb : bM T L q = nI 124 := (bM_eq hT (by omega) (by omega)).mpr ⟨hq, hx⟩
  refine ⟨_, ?_, Em_push 5 r2⟩
  rw [f_X9_fit_76, if_neg one_ne, fine_1, some_bind, if_neg one_ne, if_pos rfl, e_here hT h, b2_some, eb, if_neg (show ¬ nI 124 = 38 by decide), if_pos (show nI 124 = 124 from rfl), r1, some_bind, e7, ixr_n (by omega) (by omega), nI_clamp (by omega), show (5 : Int32) = nI 5 from rfl, mK_35, e7, nI_1, mK_7, e5', nI_1, mK_5]
  rfl
theorem rd_close {b : CS} {m : MS} {T : Nat → Nat} {L f : Nat} (hT : Tap b m T L f) {p q o k : Nat} {X : RW} {s : List (Nat × Nat × Nat)} {V : List Nat} {a c : Bool} (h : Sk T L p q) (hq : q < L) (hx : T q = 41) (ho : o < 1000) (hE : Em m f X s (V ++ [6] ++ pO c ++ pA a)) (h1 : V.length ≤ 103) (hs : s.length + (sA a).length + (sO c).length ≤ 101) : ∃ X', f_X9_fit_76 (k + 1) (mK m p (-1) (V ++ [6] ++ pO c ++ pA a).length (o + 1) X) 0 1 = ((f_X9_nots (mK m (q + 1) (-1) V.length o X')).bind fun z => f_X9_fit_76 k z 0 1) ∧ Em m f X' (s ++ sA a ++ sO c) V := by
  have hL := hT.1
  obtain ⟨X1, r1, r2⟩ := settle5 hT (p := q) (o := o + 1) (e := -1) hE (Or.inr ⟨V, 6, rfl, by decide⟩) (by rw [List.length_append]; show V.length + 1 ≤ 104; omega) hs
  have eb : bM T L q = nI 41 := (bM_eq hT (by omega) (by omega)).mpr ⟨hq, hx⟩
  have hl : (V ++ [6]).length = V.length + 1 := by rw [List.length_append]; rfl
  refine ⟨X1, ?_, Em_pop r2⟩
  rw [hl] at r1
  rw [f_X9_fit_76, if_neg one_ne, fine_1, some_bind, if_neg one_ne, if_pos rfl, e_here hT h, b2_some, eb, if_neg (show ¬ nI 41 = 38 by decide), if_neg (show ¬ nI 41 = 124 by decide), if_pos (show nI 41 = 41 from rfl), e8', if_neg (nle0 (by omega)), r1, some_bind, e7, if_neg (nle0 (by omega)), sub1, ldI_n (by omega) (by omega), some_bind, e35, Em_top r2, if_pos (show nI 6 = 6 from rfl), mK_7, e8', sub1, mK_8, e5', nI_1, mK_5]
  rfl
theorem rd_end {b : CS} {m : MS} {T : Nat → Nat} {L f : Nat} (hT : Tap b m T L f) {p q o k : Nat} {X : RW} {s : List (Nat × Nat × Nat)} {V : List Nat} {a c : Bool} (h : Sk T L p q) (n38 : ¬ (q < L ∧ T q = 38)) (n124 : ¬ (q < L ∧ T q = 124)) (n41 : ¬ (q < L ∧ T q = 41) ∨ o = 0) (hE : Em m f X s (V ++ pO c ++ pA a)) (hV : Tp (fun x => x < 10 ∧ x ≠ 4 ∧ x ≠ 5) V) (h1 : V.length ≤ 104) (hs : s.length + (sA a).length + (sO c).length ≤ 101) : ∃ X', f_X9_fit_76 (k + 1) (mK m p (-1) (V ++ pO c ++ pA a).length o X) 0 1 = f_X9_fit_76 k (mK m q (if q < L ∨ V ≠ [] then nI q else -1) V.length o X') 0 0 ∧ Em m f X' (s ++ sA a ++ sO c) V := by
  have hL := hT.1
  obtain ⟨X1, r1, r2⟩ := settle5 hT (p := q) (o := o) (e := -1) hE hV h1 hs
  have e301 : f_X9_fit_301 (f_X9_fit_76 k) (mK m q (-1) (V ++ pO c ++ pA a).length o X) 0 = f_X9_fit_76 k (mK m q (if q < L ∨ V ≠ [] then nI q else -1) V.length o X1) 0 0 := by
    unfold f_X9_fit_301 f_X9_fit_324 f_X9_fit_328 f_X9_fit_330
    rw [r1, some_bind, e5', show mi (mK m q (-1) V.length o X1) 4 = nI L from hT.2.2.2.1, e7]
    by_cases hq : q < L
    · rw [if_pos (nI_lt hq (by omega)), wrong_1, some_bind, if_pos (Or.inl hq)]
    · rw [if_neg (nI_nlt (by omega) (by have := h.2.1; omega))]
      cases V with
      | nil => rw [if_pos (show nI ([] : List Nat).length ≤ 0 by decide), if_neg (by simp; omega)]
      | cons y V =>
        have : ¬ nI (y :: V).length ≤ 0 := nI_ge (a := 0) (by simp) (by omega)
        rw [if_neg this, wrong_1, some_bind, if_pos (Or.inr (by simp))]
  refine ⟨X1, ?_, r2⟩
  rw [f_X9_fit_76, if_neg one_ne, fine_1, some_bind, if_neg one_ne, if_pos rfl, e_here hT h, b2_some, if_neg (show ¬ bM T L q = 38 from fun y => n38 ((bM_eq hT (x := 38) (by omega) (by omega)).mp y)), if_neg (show ¬ bM T L q = 124 from fun y => n124 ((bM_eq hT (x := 124) (by omega) (by omega)).mp y)), e301]
  by_cases h41 : bM T L q = 41
  · have := (bM_eq hT (x := 41) (by omega) (by omega)).mp h41
    rw [if_pos h41, e8', n41.resolve_left (fun y => y this), if_pos (show nI 0 ≤ 0 by decide)]
  · rw [if_neg h41]

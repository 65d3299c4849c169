/-! ===== fit: the unit ===== -/
theorem test_at {b : CS} {m : MS} {T : Nat → Nat} {L f : Nat} (hT : Tap b m T L f) {p q z : Nat} {S : Nat → Int32} (h : Sk T L p q) : f_X3_readTest (cK b p z 0 S) = f_X3_readTest (cK b q z 0 S) := by
  unfold f_X3_readTest
  rw [show f_X3_comes (cK b p z 0 S) 77 = _ from c_comes hT h (x := 77) (by omega), show f_X3_comes (cK b q z 0 S) 77 = _ from c_comes hT (Sk_self h) (x := 77) (by omega)]
theorem Em_Frm {m : MS} {f : Nat} {X : RW} {s : List (Nat × Nat × Nat)} {W : List Nat} (h : Em m f X s W) : Frm m f X := h.2.2.2
/-- a test read: the unit -/
theorem unit_test {b : CS} {m : MS} {T : Nat → Nat} {L f : Nat} (hT : Tap b m T L f) {p q z opn j k d : Nat} {S : Nat → Int32} {X : RW} {s r : List (Nat × Nat × Nat)} {V : List Nat} (h : Sk T L p q) (hS : StC S s) (hz : z = s.length) (hzp : z ≤ p) (hE : Em m f X r (V ++ List.replicate j 3)) (hV : Tp (fun x => x ≠ 3 ∧ x < 10) V) (hr : r.length + V.length + j ≤ p) (hj : j ≤ opn) (hop : opn ≤ 20) (hk : L + 3 ≤ p + k) (hd : d ≤ 2 * opn + 2) (h20 : ¬ (q < L ∧ (T q = 33 ∨ T q = 40)) ∨ opn = 20) : UnitOut b m T L f (f_X3_readTest (cK b p z 0 S)) (f_X9_fit_76 k (mK m p (-1) (V.length + j) opn X) 1 1) p z s r V j d opn := by
  have hL := hT.1
  have hpq := h.1
  have hqL := h.2.1
  obtain ⟨k', rfl⟩ : ∃ k', k = k' + 2 := ⟨k - 2, by omega⟩
  rcases test_n hT (z := z) (c := V.length + j) (o := opn) (S := S) h hzp hE (by omega) h20 with ⟨p', t, a1, a2, a3, a4, a5, a6, X', a7, a8⟩ | ⟨e, cs', p'', a1, a2, a3, a4⟩
  · left
    obtain ⟨X2, n1, n2⟩ := nots_n hT (p := p') (e := -1) (o := opn) hV a8 (by omega) hj (by omega) (by rw [List.length_append]; show r.length + 1 + j ≤ 100; omega)
    refine ⟨p', [t], upd S z (stp t), X2, k' + 1, by omega, a2, a6, ?_, by show 1 ≤ p' - p; omega, Vld_one ⟨by omega, a4, a5⟩, Dep_test (by omega) a3, by omega, ?_, n2⟩
    · rw [hz]; exact StC_app hS
    · rw [rd_good a7, n1, some_bind]
  · right
    exact ⟨e, cs', _, a1, a2, a3, rd_bad (by omega) a4, p'', nI e, V.length + j, opn, X, rfl, Em_Frm hE⟩
theorem unit_step {b : CS} {m : MS} {T : Nat → Nat} {L f : Nat} (hT : Tap b m T L f) {u : CS → Int32 → Option CS} {opn : Nat} (hop : opn ≤ 20) (hU : opn < 20 → UnitOK b m T L f u (opn + 1)) : UnitOK b m T L f (f_X3_readUnit u) opn := by
  intro p z S X s r V j k d hp hS hz hzp hE hV hr hj hk hd
  have hL := hT.1
  obtain ⟨q, hs⟩ := Sk_ex (T := T) (L := L) L p hp (by omega)
  have hpq := hs.1
  have hqL := hs.2.1
  have hlW : (V ++ List.replicate j 3).length = V.length + j := by rw [List.length_append, List.length_replicate]
  unfold f_X3_readUnit
  by_cases h20 : opn = 20
  · have c20 : (20 : Int32) ≤ nI opn := by rw [h20]; decide
    have out := unit_test (d := d) hT hs hS hz hzp hE hV hr hj hop hk hd (Or.inr h20)
    rw [if_pos c20, if_pos c20]
    rcases out with ⟨p', u', S', X', k', a1, a2, a3, a4⟩ | bad
    · exact Or.inl ⟨p', u', S', X', k', a1, a2, by rw [a3]; rfl, a4⟩
    · exact Or.inr (BadO_bind bad (fun cs e he hD => ⟨cs, rfl, hD⟩))
  have hop2 : opn < 20 := by omega
  have c20 : ¬ (20 : Int32) ≤ nI opn := nI_ge (b := 20) hop2 (by omega)
  have hU' := hU hop2
  obtain ⟨k', rfl⟩ : ∃ k', k = k' + 1 := ⟨k - 1, by omega⟩
  rw [if_neg c20, show f_X3_comes (cK b p z 0 S) 33 = _ from c_comes hT hs (x := 33) (by omega)]
  by_cases h33 : q < L ∧ T q = 33
  · rw [if_pos h33, b2_some, if_neg one_ne, nI_1]
    obtain ⟨X1, e1, e2⟩ := rd_push (x := 0) hT (k := k') hs h33.1 (Or.inl ⟨h33.2, rfl⟩) hop2 hE (by omega)
    rw [hlW] at e1
    rw [e1, Nat.add_assoc]
    have out := hU' (q + 1) z S X1 s r V (j + 1) k' d (by omega) hS hz (by omega) (by rw [List.replicate_succ', ← List.append_assoc]; exact e2) hV (by omega) (by omega) (by omega) (by omega)
    rcases out with ⟨p', u', S', X', k2, a1, a2, a3, a4, a5, a6, a7, a8, a9, a10⟩ | bad
    · left
      have ea := c_add (b := b) (p := p') (z := z + u'.length) (a := 3) (x := 0) (y := 0) (S := S') (by omega) (by omega) (by omega)
      have hl2 : (s ++ u').length = z + u'.length := by rw [List.length_append, hz]
      refine ⟨p', u' ++ [(3, 0, 0)], upd S' (z + u'.length) (stp (3, 0, 0)), X', k2, by omega, a2, ?_, ?_, ?_, Vld_app a6 (Vld_one ⟨by decide, by decide, by decide⟩), Dep_not a7, a8, ?_, ?_⟩
      · rw [a3, some_bind, show f_X3_add (cK b p' (z + u'.length) 0 S') 3 0 0 = _ from ea, some_bind, List.length_append]
        rfl
      · have := StC_app (t := (3, 0, 0)) a4
        rw [hl2, List.append_assoc] at this
        exact this
      · rw [List.length_append]
        show u'.length + 1 ≤ p' - p
        omega
      · rw [a9, show opn + 1 - (j + 1) = opn - j by omega]
      · unfold sN at a10 ⊢
        rw [List.replicate_succ] at a10
        rw [List.append_assoc, List.append_assoc]
        rw [List.append_assoc] at a10
        exact a10
    · right
      refine BadO_bind bad (fun cs e he hD => ?_)
      obtain ⟨cs2, x1, x2⟩ := Dm_add hD 3 0 0
      exact ⟨cs2, by rw [x1, some_bind], x2⟩
  rw [if_neg h33, b2_some, if_pos rfl, if_neg c20, show f_X3_comes (cK b q z 0 S) 40 = _ from c_comes hT (Sk_self hs) (x := 40) (by omega)]
  by_cases h40 : q < L ∧ T q = 40
  · rw [if_pos h40, b2_some, if_neg one_ne, nI_1]
    obtain ⟨X1, e1, e2⟩ := rd_push (x := 0) hT (k := k') hs h40.1 (Or.inr ⟨h40.2, rfl⟩) hop2 hE (by omega)
    have hl6 : (V ++ List.replicate j 3 ++ [6]).length = V.length + j + 1 := by rw [List.length_append, hlW]; rfl
    rw [hlW] at e1
    rw [e1, ← hl6]
    have out := any_n hT (opn := opn + 1) (by omega) hU' (q + 1) z S X1 s r (V ++ List.replicate j 3 ++ [6]) k' d (by omega) hS hz (by omega) e2 (Or.inr ⟨_, 6, rfl, by decide⟩) (by rw [hl6]; omega) (by omega) (by omega)
    rcases out with ⟨p1, q1, u1, v1, a, c, S1, X2, k1, b1, b2', b3, b4, b5, b6, b7, b8, b9, b10, b11, b12, b13⟩ | bad
    · have hp1q := b2'.1
      have hq1L := b2'.2.1
      have hv1 : v1.length + (sA a).length + (sO c).length = u1.length := by rw [b12, List.length_append, List.length_append]
      have hrl : (r ++ v1).length + (sA a).length + (sO c).length ≤ 101 := by rw [List.length_append]; omega
      obtain ⟨k2, rfl⟩ : ∃ k2, k1 = k2 + 1 := ⟨k1 - 1, by omega⟩
      rw [b5, some_bind, b11, show f_X3_must (cK b q1 (z + u1.length) 0 S1) 41 = _ from c_must hT (Sk_self b2') (x := 41) (by omega)]
      by_cases h41 : q1 < L ∧ T q1 = 41
      · left
        obtain ⟨X3, r1, r2⟩ := rd_close hT (k := k2) (o := opn) b2' h41.1 h41.2 (by omega) b13 (by rw [hlW]; omega) hrl
        rw [hlW] at r1
        rw [List.append_assoc, List.append_assoc, ← List.append_assoc v1, ← b12] at r2
        obtain ⟨X4, n1, n2⟩ := nots_n hT (p := q1 + 1) (e := -1) (o := opn) hV r2 (by omega) hj (by omega) (by rw [List.length_append]; omega)
        refine ⟨q1 + 1, u1, S1, X4, k2, by omega, by omega, ?_, b6, by omega, b8, b9, by omega, ?_, n2⟩
        · rw [if_pos h41, some_bind]
        · rw [r1, n1, some_bind]
      · right
        obtain ⟨X3, r1, r2⟩ := rd_end hT (k := k2) (o := opn + 1) b2' b3 b4 (Or.inl h41) b13 (Or.inr ⟨_, 6, rfl, by decide⟩) (by rw [hl6]; omega) hrl
        rw [if_pos (Or.inr (by simp))] at r1
        obtain ⟨k3, rfl⟩ : ∃ k3, k2 = k3 + 1 := ⟨k2 - 1, by omega⟩
        rw [rd_err (by omega)] at r1
        rw [if_neg h41, r1]
        exact ⟨q1, _, _, hq1L, rfl, Or.inl ⟨z + u1.length, S1, by omega, rfl⟩, rfl, q1, nI q1, _, opn + 1, X3, rfl, Em_Frm r2⟩
    · right
      refine BadO_bind bad (fun cs e he hD => ?_)
      obtain ⟨cs2, x1, x2⟩ := Dm_must hT hD (x := 41) (by omega) (by unfold isD; omega)
      exact ⟨cs2, by rw [show f_X3_must cs 41 = _ from x1, some_bind], x2⟩
  · rw [if_neg h40, b2_some, if_pos rfl, ← test_at hT hs]
    have out := unit_test (d := d) hT hs hS hz hzp hE hV hr hj hop hk hd (Or.inl (fun y => y.2.elim (fun w => h33 ⟨y.1, w⟩) (fun w => h40 ⟨y.1, w⟩)))
    rcases out with ⟨p', u', S', X', k2, a1, a2, a3, a4⟩ | bad
    · exact Or.inl ⟨p', u', S', X', k2, a1, a2, by rw [a3]; rfl, a4⟩
    · exact Or.inr (BadO_bind bad (fun cs e he hD => ⟨cs, rfl, hD⟩))
theorem unit_all {b : CS} {m : MS} {T : Nat → Nat} {L f : Nat} (hT : Tap b m T L f) : ∀ (n opn : Nat), opn ≤ 20 → 21 ≤ n + opn → UnitOK b m T L f (ru n) opn := by
  intro n
  induction n with
  | zero => intro opn h1 h2; omega
  | succ n ih =>
    intro opn h1 h2
    have : UnitOK b m T L f (f_X3_readUnit (ru n)) opn := unit_step hT h1 (fun h => ih (opn + 1) (by omega) (by omega))
    exact this

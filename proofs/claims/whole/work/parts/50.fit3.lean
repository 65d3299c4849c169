/-! ===== fit: one test, on both sides ===== -/
def Dm (b : CS) (T : Nat → Nat) (L : Nat) (cs : CS) (e : Nat) : Prop := (∃ z S, z ≤ 100 ∧ cs = cK b e z 1 S) ∨ ∃ z S, z ≤ 100 ∧ cs = cK b e z 0 S ∧ e < L ∧ isD (T e)
def TestRes (b : CS) (m : MS) (T : Nat → Nat) (L f p z c o : Nat) (S : Nat → Int32) (X : RW) (r : List (Nat × Nat × Nat)) (W : List Nat) (q : Nat) : Prop :=
  (∃ (p' : Nat) (t : Nat × Nat × Nat), q < p' ∧ p' ≤ L ∧ t.1 ≤ 2 ∧ t.2.1 < 16384 ∧ t.2.2 < 16384 ∧ f_X3_readTest (cK b p z 0 S) = some (cK b p' (z + 1) 0 (upd S z (stp t))) ∧ ∃ X', f_X9_operand (mK m p (-1) c o X) = some (1, mK m p' (-1) c o X') ∧ Em m f X' (r ++ [t]) W) ∨
  (∃ (e : Nat) (cs' : CS) (p'' : Nat), e ≤ L ∧ f_X3_readTest (cK b p z 0 S) = some cs' ∧ Dm b T L cs' e ∧ f_X9_operand (mK m p (-1) c o X) = some (0, mK m p'' (nI e) c o X))
theorem nI_subk {x k : Nat} (h : k ≤ x) : nI x - nI k = nI (x - k) := by
  have e : nI (x - k) + nI k = nI x := by rw [nI_add]; congr 1; omega
  rw [← e]; grind
theorem gd01 {α : Type} {x : Int32} {k : Option α} (h : x = 0 ∨ x = 1) : gd (x = 0 ∨ x = 1) k = k := gd_t h
theorem test_M {b : CS} {m : MS} {T : Nat → Nat} {L f : Nat} (hT : Tap b m T L f) {p q z c o : Nat} {S : Nat → Int32} {X : RW} {r : List (Nat × Nat × Nat)} {W : List Nat} (h : Sk T L p q) (hz : z ≤ p) (hE : Em m f X r W) (hr : r.length ≤ 100) (hq : q < L) (hx : T q = 77) : TestRes b m T L f p z c o S X r W q := by
  have hL := hT.1
  have h1 := h.1
  have eb : bM T L q = nI 77 := (bM_eq hT (by omega) (by omega)).mpr ⟨hq, hx⟩
  obtain ⟨q1, hs⟩ := Sk_ex (T := T) (L := L) L (q + 1) (by omega) (by omega)
  have hq1 := hs.1
  have hq1L := hs.2.1
  have e8 : f_X3_readTest (cK b p z 0 S) = b2 (f_X3_readNumber (cK b (q + 1) z 0 S)) fun r18 cs17 => (f_X3_add cs17 (0 : Int32) r18 (0 : Int32)).bind fun cs19 => some cs19 := by
    unfold f_X3_readTest
    rw [show f_X3_comes (cK b p z 0 S) 77 = _ from (c_comes hT h (x := 77) (by omega)).trans (if_pos ⟨hq, hx⟩), b2_some, if_neg one_ne]
  have e9 : f_X9_operand (mK m p (-1) c o X) = b2 (f_X9_digits (mK m (q + 1) (-1) c o X)) fun r47 ms46 => (f_X9_fine ms46 ).bind fun r48 => if r48 = 0 then ((f_X9_fine ms46 ).bind fun r50 => gd (r50 = 0 ∨ r50 = 1) <| some (r50, ms46)) else ((f_X9_emit ms46 (0 : Int32) r47 (0 : Int32)).bind fun ms52 => (f_X9_fine ms52 ).bind fun r53 => gd (r53 = 0 ∨ r53 = 1) <| some (r53, ms52)) := by
    unfold f_X9_operand
    rw [e_here hT h, b2_some, eb, if_neg (show ¬ nI 77 = 33 by decide), if_neg (show ¬ nI 77 = 40 by decide), if_pos (show nI 77 = 77 from rfl), show mi (mK m q (-1) c o X) 5 = nI q from rfl, nI_1, mK_5]
  rcases num_n hT (z := z) (c := c) (o := o) (S := S) (X := X) hs with ⟨n8, n9⟩ | ⟨p', v, a1, a2, a3, n8, n9⟩
  · right
    rw [n8, b2_some] at e8
    rw [n9, b2_some, fine_0 (by omega), some_bind, if_pos rfl, some_bind, gd01 (Or.inl rfl)] at e9
    obtain ⟨z', S', hz', ea⟩ := c_add_any (b := b) (p := q1) (z := z) (w := 1) (v1 := 0) (v2 := 0) (v3 := 0) (S := S) (by omega)
    rw [ea, some_bind] at e8
    exact ⟨q1, _, q1, hs.2.1, e8, Or.inl ⟨z', S', hz', rfl⟩, e9⟩
  · rw [n8, b2_some] at e8
    rcases n9 with ⟨g1, n9⟩ | ⟨g1, g2, n9⟩
    · left
      obtain ⟨X', ee, hE'⟩ := e_emit hT (p := p') (c := c) (o := o) (e := -1) hE hr 0 v 0
      rw [show f_X3_add (cK b p' z 0 S) 0 (nI v) 0 = _ from c_add (a := 0) (x := v) (y := 0) (by omega) (by omega) (by omega), some_bind] at e8
      rw [n9, b2_some, fine_1, some_bind, if_neg one_ne, show f_X9_emit (mK m p' (-1) c o X) 0 (nI v) 0 = _ from ee, some_bind, fine_1, some_bind, gd01 (Or.inr rfl)] at e9
      exact ⟨p', (0, v, 0), by omega, a2, by show (0 : Nat) ≤ 2; omega, by show v < 16384; omega, by show (0 : Nat) < 16384; omega, e8, X', e9, hE'⟩
    · right
      rw [n9, b2_some, fine_0 (by omega), some_bind, if_pos rfl, some_bind, gd01 (Or.inl rfl)] at e9
      obtain ⟨z', S', hz', ea⟩ := c_add_any (b := b) (p := p') (z := z) (w := 0) (v1 := 0) (v2 := nI v) (v3 := 0) (S := S) (by omega)
      rw [ea, some_bind] at e8
      exact ⟨p', _, p', a2, e8, Or.inr ⟨z', S', hz', rfl, g1, g2⟩, e9⟩
theorem test_Y {b : CS} {m : MS} {T : Nat → Nat} {L f : Nat} (hT : Tap b m T L f) {p q z c o : Nat} {S : Nat → Int32} {X : RW} {r : List (Nat × Nat × Nat)} {W : List Nat} (h : Sk T L p q) (hz : z ≤ p) (hE : Em m f X r W) (hr : r.length ≤ 100) (hq : q < L) (hx : T q = 89) : TestRes b m T L f p z c o S X r W q := by
  have hL := hT.1
  have h1 := h.1
  have eb : bM T L q = nI 89 := (bM_eq hT (by omega) (by omega)).mpr ⟨hq, hx⟩
  obtain ⟨q1, hs⟩ := Sk_ex (T := T) (L := L) L (q + 1) (by omega) (by omega)
  have hq1 := hs.1
  have hq1L := hs.2.1
  have e8 : f_X3_readTest (cK b p z 0 S) = b2 (f_X3_readNumber (cK b (q + 1) z 0 S)) fun r12 cs11 => (f_X3_must cs11 (45 : Int32)).bind fun cs13 => b2 (f_X3_readNumber cs13 ) fun r15 cs14 => (f_X3_add cs14 (1 : Int32) r12 r15).bind fun cs16 => some cs16 := by
    unfold f_X3_readTest
    rw [show f_X3_comes (cK b p z 0 S) 77 = _ from (c_comes hT h (x := 77) (by omega)).trans (if_neg (by omega)), b2_some, if_pos rfl, show f_X3_comes (cK b q z 0 S) 89 = _ from (c_comes hT (Sk_self h) (x := 89) (by omega)).trans (if_pos ⟨hq, hx⟩), b2_some, if_neg one_ne]
  have e9 : f_X9_operand (mK m p (-1) c o X) = b2 (f_X9_digits (mK m (q + 1) (-1) c o X)) fun r26 ms25 => (f_X9_fine ms25 ).bind fun r27 => if r27 = 0 then (f_X9_operand_164 ms25 r26) else (b2 (f_X9_here ms25 ) fun r43 ms42 => if r43 = (45 : Int32) then (f_X9_operand_164 ms42 r26) else ((f_X9_wrong ms42 ).bind fun ms45 => f_X9_operand_164 ms45 r26)) := by
    unfold f_X9_operand
    rw [e_here hT h, b2_some, eb, if_neg (show ¬ nI 89 = 33 by decide), if_neg (show ¬ nI 89 = 40 by decide), if_neg (show ¬ nI 89 = 77 by decide), if_pos (show nI 89 = 89 from rfl), show mi (mK m q (-1) c o X) 5 = nI q from rfl, nI_1, mK_5]
  have bad164 : ∀ (pp e : Nat) (v : Int32), e < 2 ^ 31 → f_X9_operand_164 (mK m pp (nI e) c o X) v = some (0, mK m pp (nI e) c o X) := by
    intro pp e v he
    unfold f_X9_operand_164 f_X9_operand_181 f_X9_operand_196
    simp only [fine_0 he, some_bind, if_pos (show (0 : Int32) = 0 from rfl)]
    exact gd01 (Or.inl rfl)
  have bad196 : ∀ (pp e : Nat) (v w : Int32), e < 2 ^ 31 → f_X9_operand_196 (mK m pp (nI e) c o X) v w = some (0, mK m pp (nI e) c o X) := by
    intro pp e v w he
    unfold f_X9_operand_196
    rw [fine_0 he, some_bind, if_pos rfl, some_bind, gd01 (Or.inl rfl)]
  have wrongC : ∀ (e : Nat) (v : Int32), ∃ z' S', z' ≤ 100 ∧ ((f_X3_must (cK b e z 1 S) (45 : Int32)).bind fun cs13 => b2 (f_X3_readNumber cs13 ) fun r15 cs14 => (f_X3_add cs14 (1 : Int32) v r15).bind fun cs16 => some cs16) = some (cK b e z' 1 S') := by
    intro e v
    obtain ⟨z', S', hz', ea⟩ := c_add_any (b := b) (p := e) (z := z) (w := 1) (v1 := 1) (v2 := v) (v3 := 0) (S := S) (by omega)
    exact ⟨z', S', hz', by rw [show f_X3_must (cK b e z 1 S) 45 = _ from c_must1 (x := 45) (by omega), some_bind, num_1, b2_some, ea, some_bind]⟩
  rcases num_n hT (z := z) (c := c) (o := o) (S := S) (X := X) hs with ⟨n8, n9⟩ | ⟨p', v, a1, a2, a3, n8, n9⟩
  · right
    obtain ⟨z', S', hz', ea⟩ := wrongC q1 0
    rw [n8, b2_some, ea] at e8
    rw [n9, b2_some, fine_0 (by omega), some_bind, if_pos rfl, bad164 _ _ _ (by omega)] at e9
    exact ⟨q1, _, q1, hs.2.1, e8, Or.inl ⟨z', S', hz', rfl⟩, e9⟩
  · rw [n8, b2_some] at e8
    obtain ⟨q2, hs2⟩ := Sk_ex (T := T) (L := L) L p' (by omega) (by omega)
    have hq2 := hs2.1
    have hq2L := hs2.2.1
    -- what comes when no '-' stands at q2
    have noDash : ¬ (q2 < L ∧ T q2 = 45) → ∃ z' S', z' ≤ 100 ∧ f_X3_readTest (cK b p z 0 S) = some (cK b q2 z' 1 S') := by
      intro hno
      obtain ⟨z', S', hz', ea⟩ := c_add_any (b := b) (p := q2) (z := z) (w := 1) (v1 := 1) (v2 := nI v) (v3 := 0) (S := S) (by omega)
      exact ⟨z', S', hz', by rw [e8, show f_X3_must (cK b p' z 0 S) 45 = _ from (c_must hT hs2 (x := 45) (by omega)).trans (if_neg hno), some_bind, num_1, b2_some, ea, some_bind]⟩
    rcases n9 with ⟨g1, n9⟩ | ⟨g1, g2, n9⟩
    · rw [n9, b2_some, fine_1, some_bind, if_neg one_ne, e_here hT hs2, b2_some] at e9
      by_cases dash : q2 < L ∧ T q2 = 45
      · rw [if_pos (show bM T L q2 = 45 from (bM_eq hT (x := 45) (by omega) (by omega)).mpr dash)] at e9
        rw [show f_X3_must (cK b p' z 0 S) 45 = _ from (c_must hT hs2 (x := 45) (by omega)).trans (if_pos dash), some_bind] at e8
        have e9' : f_X9_operand (mK m p (-1) c o X) = b2 (f_X9_digits (mK m (q2 + 1) (-1) c o X)) fun r41 ms40 => f_X9_operand_196 ms40 (nI v) r41 := by
          rw [e9]
          unfold f_X9_operand_164 f_X9_operand_181
          rw [fine_1, some_bind, if_neg one_ne, show mi (mK m q2 (-1) c o X) 5 = nI q2 from rfl, nI_1, mK_5, fine_1, some_bind, if_neg one_ne]
        obtain ⟨q3, hs3⟩ := Sk_ex (T := T) (L := L) L (q2 + 1) (by omega) (by omega)
        have hq3 := hs3.1
        have hq3L := hs3.2.1
        rcases num_n hT (z := z) (c := c) (o := o) (S := S) (X := X) hs3 with ⟨k8, k9⟩ | ⟨p3, v3, b1, b2', b3, k8, k9⟩
        · right
          obtain ⟨z', S', hz', ea⟩ := c_add_any (b := b) (p := q3) (z := z) (w := 1) (v1 := 1) (v2 := nI v) (v3 := 0) (S := S) (by omega)
          rw [k8, b2_some, ea, some_bind] at e8
          rw [k9, b2_some, bad196 _ _ _ _ (by omega)] at e9'
          exact ⟨q3, _, q3, hs3.2.1, e8, Or.inl ⟨z', S', hz', rfl⟩, e9'⟩
        · rw [k8, b2_some] at e8
          rcases k9 with ⟨g3, k9⟩ | ⟨g3, g4, k9⟩
          · left
            obtain ⟨X', ee, hE'⟩ := e_emit hT (p := p3) (c := c) (o := o) (e := -1) hE hr 1 v v3
            rw [show f_X3_add (cK b p3 z 0 S) 1 (nI v) (nI v3) = _ from c_add (a := 1) (x := v) (y := v3) (by omega) (by omega) (by omega), some_bind] at e8
            rw [k9, b2_some] at e9'
            unfold f_X9_operand_196 at e9'
            rw [fine_1, some_bind, if_neg one_ne, show f_X9_emit (mK m p3 (-1) c o X) 1 (nI v) (nI v3) = _ from ee, some_bind, fine_1, some_bind, gd01 (Or.inr rfl)] at e9'
            exact ⟨p3, (1, v, v3), by omega, b2', by show (1 : Nat) ≤ 2; omega, by show v < 16384; omega, by show v3 < 16384; omega, e8, X', e9', hE'⟩
          · right
            obtain ⟨z', S', hz', ea⟩ := c_add_any (b := b) (p := p3) (z := z) (w := 0) (v1 := 1) (v2 := nI v) (v3 := nI v3) (S := S) (by omega)
            rw [ea, some_bind] at e8
            rw [k9, b2_some, bad196 _ _ _ _ (by omega)] at e9'
            exact ⟨p3, _, p3, b2', e8, Or.inr ⟨z', S', hz', rfl, g3, g4⟩, e9'⟩
      · right
        obtain ⟨z', S', hz', ea⟩ := noDash dash
        rw [if_neg (show ¬ bM T L q2 = 45 from fun e => dash ((bM_eq hT (x := 45) (by omega) (by omega)).mp e)), wrong_1, some_bind, bad164 _ _ _ (by omega)] at e9
        exact ⟨q2, _, q2, hs2.2.1, ea, Or.inl ⟨z', S', hz', rfl⟩, e9⟩
    · right
      have hpq : p' = q2 := by
        rcases Nat.lt_or_ge p' q2 with y | y
        · have := hs2.2.2.1 p' (Nat.le_refl _) y
          have := g2.1
          omega
        · omega
      subst hpq
      obtain ⟨z', S', hz', ea⟩ := noDash (fun y => by have := g2.1; omega)
      rw [n9, b2_some, fine_0 (by omega), some_bind, if_pos rfl, bad164 _ _ _ (by omega)] at e9
      exact ⟨p', _, p', a2, ea, Or.inl ⟨z', S', hz', rfl⟩, e9⟩
theorem test_K {b : CS} {m : MS} {T : Nat → Nat} {L f : Nat} (hT : Tap b m T L f) {p q z c o : Nat} {S : Nat → Int32} {X : RW} {r : List (Nat × Nat × Nat)} {W : List Nat} (h : Sk T L p q) (hz : z ≤ p) (hE : Em m f X r W) (hr : r.length ≤ 100) (hq : q < L) (hx : T q = 75) : TestRes b m T L f p z c o S X r W q := by
  have hL := hT.1
  have h1 := h.1
  have eb : bM T L q = nI 75 := (bM_eq hT (by omega) (by omega)).mpr ⟨hq, hx⟩
  obtain ⟨q1, hs⟩ := Sk_ex (T := T) (L := L) L (q + 1) (by omega) (by omega)
  have hq1 := hs.1
  have hq1L := hs.2.1
  have e8 : f_X3_readTest (cK b p z 0 S) = b2 (f_X3_readLetter (cK b (q + 1) z 0 S)) fun r9 cs8 => (f_X3_add cs8 (2 : Int32) r9 (0 : Int32)).bind fun cs10 => some cs10 := by
    unfold f_X3_readTest
    rw [show f_X3_comes (cK b p z 0 S) 77 = _ from (c_comes hT h (x := 77) (by omega)).trans (if_neg (by omega)), b2_some, if_pos rfl, show f_X3_comes (cK b q z 0 S) 89 = _ from (c_comes hT (Sk_self h) (x := 89) (by omega)).trans (if_neg (by omega)), b2_some, if_pos rfl, show f_X3_must (cK b q z 0 S) 75 = _ from (c_must hT (Sk_self h) (x := 75) (by omega)).trans (if_pos ⟨hq, hx⟩), some_bind]
  have e9 : f_X9_operand (mK m p (-1) c o X) = if bM T L q1 < (97 : Int32) then (f_X9_operand_247 (mK m q1 (-1) c o X) (bM T L q1)) else (if bM T L q1 ≤ (104 : Int32) then (f_X9_operand_251 (mK m q1 (-1) c o X) (bM T L q1)) else (f_X9_operand_247 (mK m q1 (-1) c o X) (bM T L q1))) := by
    unfold f_X9_operand
    rw [e_here hT h, b2_some, eb, if_neg (show ¬ nI 75 = 33 by decide), if_neg (show ¬ nI 75 = 40 by decide), if_neg (show ¬ nI 75 = 77 by decide), if_neg (show ¬ nI 75 = 89 by decide), if_pos (show nI 75 = 75 from rfl), show mi (mK m q (-1) c o X) 5 = nI q from rfl, nI_1, mK_5, e_here hT hs, b2_some]
  have b247 : f_X9_operand_247 (mK m q1 (-1) c o X) (bM T L q1) = some (0, mK m (q1 + 1) (nI q1) c o X) := by
    unfold f_X9_operand_247 f_X9_operand_251 f_X9_operand_268
    rw [wrong_1, some_bind, fine_0 (by omega), some_bind, if_pos rfl, show mi (mK m q1 (nI q1) c o X) 5 = nI q1 from rfl, nI_1, mK_5, fine_0 (by omega), some_bind, gd01 (Or.inl rfl)]
  obtain ⟨z', S', hz', ea⟩ := c_add_any (b := b) (p := q1) (z := z) (w := 1) (v1 := 2) (v2 := 0) (v3 := 0) (S := S) (by omega)
  unfold f_X3_readLetter at e8
  rw [c_next hT hs, b2_some] at e8
  by_cases hl : q1 < L
  · obtain ⟨hb, -⟩ := hT.2.2.2.2.2 q1 hl
    have ec : bC T L q1 = nI (T q1) := if_pos hl
    have em : bM T L q1 = nI (T q1) := if_pos hl
    rw [ec] at e8
    by_cases l1 : T q1 < 97
    · right
      have c1 : nI (T q1) < (97 : Int32) := nI_lt (b := 97) l1 (by omega)
      rw [if_pos c1, cK_10, b2_some, ea, some_bind] at e8
      rw [if_pos (by rw [em]; exact c1), b247] at e9
      exact ⟨q1, _, _, hq1L, e8, Or.inl ⟨z', S', hz', rfl⟩, e9⟩
    have c1 : ¬ nI (T q1) < (97 : Int32) := nI_nlt (b := 97) (by omega) (by omega)
    rw [if_neg c1] at e8
    rw [if_neg (by rw [em]; exact c1)] at e9
    by_cases l2 : T q1 ≤ 104
    · left
      have c2 : nI (T q1) ≤ (104 : Int32) := nI_le (b := 104) l2 (by omega)
      have e97 : nI (T q1) - (97 : Int32) = nI (T q1 - 97) := nI_subk (k := 97) (by omega)
      rw [if_pos c2, show ci (cK b q1 z 0 S) 8 = nI q1 from rfl, nI_1, cK_8, b2_some, e97, show f_X3_add (cK b (q1 + 1) z 0 S) 2 (nI (T q1 - 97)) 0 = _ from c_add (a := 2) (x := T q1 - 97) (y := 0) (by omega) (by omega) (by omega), some_bind] at e8
      obtain ⟨X', ee, hE'⟩ := e_emit hT (p := q1) (c := c) (o := o) (e := -1) hE hr 2 (T q1 - 97) 0
      rw [if_pos (by rw [em]; exact c2), em] at e9
      unfold f_X9_operand_251 f_X9_operand_268 at e9
      rw [fine_1, some_bind, if_neg one_ne, e97, show f_X9_emit (mK m q1 (-1) c o X) 2 (nI (T q1 - 97)) 0 = _ from ee, some_bind, show mi (mK m q1 (-1) c o X') 5 = nI q1 from rfl, nI_1, mK_5, fine_1, some_bind, gd01 (Or.inr rfl)] at e9
      exact ⟨q1 + 1, (2, T q1 - 97, 0), by omega, by omega, by show (2 : Nat) ≤ 2; omega, by show T q1 - 97 < 16384; omega, by show (0 : Nat) < 16384; omega, e8, X', e9, hE'⟩
    · right
      have c2 : ¬ nI (T q1) ≤ (104 : Int32) := nI_ge (a := 104) (by omega) (by omega)
      rw [if_neg c2, cK_10, b2_some, ea, some_bind] at e8
      rw [if_neg (by rw [em]; exact c2), b247] at e9
      exact ⟨q1, _, _, hq1L, e8, Or.inl ⟨z', S', hz', rfl⟩, e9⟩
  · right
    have ec : bC T L q1 = -1 := if_neg hl
    have em : bM T L q1 = 0 := if_neg hl
    rw [ec, if_pos (by decide), cK_10, b2_some, ea, some_bind] at e8
    rw [if_pos (by rw [em]; decide), b247] at e9
    exact ⟨q1, _, _, hq1L, e8, Or.inl ⟨z', S', hz', rfl⟩, e9⟩
theorem test_no {b : CS} {m : MS} {T : Nat → Nat} {L f : Nat} (hT : Tap b m T L f) {p q z c o : Nat} {S : Nat → Int32} {X : RW} {r : List (Nat × Nat × Nat)} {W : List Nat} (h : Sk T L p q) (hz : z ≤ p) (n77 : ¬ (q < L ∧ T q = 77)) (n89 : ¬ (q < L ∧ T q = 89)) (n75 : ¬ (q < L ∧ T q = 75)) (h20 : ¬ (q < L ∧ (T q = 33 ∨ T q = 40)) ∨ o = 20) : TestRes b m T L f p z c o S X r W q := by
  have hL := hT.1
  have h1 := h.1
  have hqL := h.2.1
  obtain ⟨z', S', hz', ea⟩ := c_add_any (b := b) (p := q) (z := z) (w := 1) (v1 := 2) (v2 := 0) (v3 := 0) (S := S) (by omega)
  have e8 : f_X3_readTest (cK b p z 0 S) = some (cK b q z' 1 S') := by
    unfold f_X3_readTest
    rw [show f_X3_comes (cK b p z 0 S) 77 = _ from (c_comes hT h (x := 77) (by omega)).trans (if_neg n77), b2_some, if_pos rfl, show f_X3_comes (cK b q z 0 S) 89 = _ from (c_comes hT (Sk_self h) (x := 89) (by omega)).trans (if_neg n89), b2_some, if_pos rfl, show f_X3_must (cK b q z 0 S) 75 = _ from (c_must hT (Sk_self h) (x := 75) (by omega)).trans (if_neg n75), some_bind, let_1, b2_some, ea, some_bind]
  have B : ∀ x, x < 256 → x ≠ 0 → (bM T L q = nI x ↔ q < L ∧ T q = x) := fun x hx h0 => bM_eq hT hx h0
  have e17 : o = 20 → ∀ v, f_X9_operand_17 (mK m q (-1) c o X) v = some (0, mK m q (nI q) c o X) := by
    intro ho v
    unfold f_X9_operand_17
    rw [show mi (mK m q (-1) c o X) 8 = nI o from rfl, ho, if_pos (show nI 20 = 20 from rfl), wrong_1, some_bind]
  have e9 : f_X9_operand (mK m p (-1) c o X) = some (0, mK m q (nI q) c o X) := by
    unfold f_X9_operand
    rw [e_here hT h, b2_some]
    by_cases x33 : bM T L q = 33
    · rw [if_pos x33]
      have := (B 33 (by omega) (by omega)).mp x33
      exact e17 (h20.resolve_left (fun y => y ⟨this.1, Or.inl this.2⟩)) _
    rw [if_neg x33]
    by_cases x40 : bM T L q = 40
    · rw [if_pos x40]
      have := (B 40 (by omega) (by omega)).mp x40
      exact e17 (h20.resolve_left (fun y => y ⟨this.1, Or.inr this.2⟩)) _
    rw [if_neg x40, if_neg (show ¬ bM T L q = 77 from fun e => n77 ((B 77 (by omega) (by omega)).mp e)), if_neg (show ¬ bM T L q = 89 from fun e => n89 ((B 89 (by omega) (by omega)).mp e)), if_neg (show ¬ bM T L q = 75 from fun e => n75 ((B 75 (by omega) (by omega)).mp e)), wrong_1, some_bind, fine_0 (by omega), some_bind, gd01 (Or.inl rfl)]
  exact Or.inr ⟨q, _, q, hqL, e8, Or.inl ⟨z', S', hz', rfl⟩, e9⟩
theorem test_n {b : CS} {m : MS} {T : Nat → Nat} {L f : Nat} (hT : Tap b m T L f) {p q z c o : Nat} {S : Nat → Int32} {X : RW} {r : List (Nat × Nat × Nat)} {W : List Nat} (h : Sk T L p q) (hz : z ≤ p) (hE : Em m f X r W) (hr : r.length ≤ 100) (h20 : ¬ (q < L ∧ (T q = 33 ∨ T q = 40)) ∨ o = 20) : TestRes b m T L f p z c o S X r W q := by
  by_cases a : q < L ∧ T q = 77
  · exact test_M hT h hz hE hr a.1 a.2
  by_cases c : q < L ∧ T q = 89
  · exact test_Y hT h hz hE hr c.1 c.2
  by_cases d : q < L ∧ T q = 75
  · exact test_K hT h hz hE hr d.1 d.2
  exact test_no hT h hz a c d h20

/-! ===== fit: the reference's reading, its steps and its pile ===== -/
def Frm (m : MS) (f : Nat) (X : RW) : Prop := (∀ j, j ≠ f → X.1 j = ma m 31 j) ∧ ∀ z, z < 100 * f → X.2.1 z = ma m 32 z ∧ X.2.2.1 z = ma m 33 z ∧ X.2.2.2.1 z = ma m 34 z
def Em (m : MS) (f : Nat) (X : RW) (s : List (Nat × Nat × Nat)) (W : List Nat) : Prop := X.1 f = nI s.length ∧ (∀ j q, s[j]? = some q → X.2.1 (100 * f + j) = nI q.1 ∧ X.2.2.1 (100 * f + j) = nI q.2.1 ∧ X.2.2.2.1 (100 * f + j) = nI q.2.2) ∧ (∀ j x, W[j]? = some x → X.2.2.2.2 j = nI x) ∧ Frm m f X
theorem app_get {α : Type} {s : List α} {q y : α} {j : Nat} (h : (s ++ [q])[j]? = some y) : (j < s.length ∧ s[j]? = some y) ∨ (j = s.length ∧ y = q) := by
  by_cases a : j < s.length
  · rw [List.getElem?_append_left a] at h
    exact Or.inl ⟨a, h⟩
  · rw [List.getElem?_append_right (by omega)] at h
    by_cases b : j - s.length = 0
    · rw [b] at h
      exact Or.inr ⟨by omega, (Option.some.inj h).symm⟩
    · obtain ⟨k, hk⟩ : ∃ k, j - s.length = k + 1 := ⟨j - s.length - 1, by omega⟩
      rw [hk] at h
      simp at h
theorem app_old {α : Type} {s : List α} {q y : α} {j : Nat} (h : s[j]? = some y) : (s ++ [q])[j]? = some y := by
  have : j < s.length := by
    rcases Nat.lt_or_ge j s.length with a | a
    · exact a
    · rw [List.getElem?_eq_none a] at h; cases h
  rw [List.getElem?_append_left this]; exact h
theorem app_new {α : Type} {s : List α} {q : α} : (s ++ [q])[s.length]? = some q := by
  rw [List.getElem?_append_right (Nat.le_refl _), Nat.sub_self]; rfl
theorem Em_pop {m : MS} {f : Nat} {X : RW} {s : List (Nat × Nat × Nat)} {W : List Nat} {x : Nat} (h : Em m f X s (W ++ [x])) : Em m f X s W :=
  ⟨h.1, h.2.1, fun j y hy => h.2.2.1 j y (app_old hy), h.2.2.2⟩
theorem Em_top {m : MS} {f : Nat} {X : RW} {s : List (Nat × Nat × Nat)} {W : List Nat} {x : Nat} (h : Em m f X s (W ++ [x])) : X.2.2.2.2 W.length = nI x := h.2.2.1 _ _ app_new
theorem Em_push {m : MS} {f : Nat} {X : RW} {s : List (Nat × Nat × Nat)} {W : List Nat} (x : Nat) (h : Em m f X s W) : Em m f (X.1, X.2.1, X.2.2.1, X.2.2.2.1, upd X.2.2.2.2 W.length (nI x)) s (W ++ [x]) := by
  refine ⟨h.1, h.2.1, fun j y hy => ?_, h.2.2.2⟩
  show upd X.2.2.2.2 W.length (nI x) j = nI y
  rcases app_get hy with ⟨a, b⟩ | ⟨a, b⟩
  · rw [upd_ne (by omega)]; exact h.2.2.1 j y b
  · rw [a, b, upd_eq]
theorem e_emit {b : CS} {m : MS} {T : Nat → Nat} {L f : Nat} (hT : Tap b m T L f) {p c o : Nat} {e : Int32} {X : RW} {s : List (Nat × Nat × Nat)} {W : List Nat} (h : Em m f X s W) (hs : s.length ≤ 100) (a x y : Nat) : ∃ X', f_X9_emit (mK m p e c o X) (nI a) (nI x) (nI y) = some (mK m p e c o X') ∧ Em m f X' (s ++ [(a, x, y)]) W := by
  obtain ⟨hL, hf, -, -, h3, -⟩ := hT
  obtain ⟨h1, h2, h4, h5, h6⟩ := h
  have e3 : ∀ X, mi (mK m p e c o X) 3 = nI f := fun X => h3
  have e31 : ∀ X : RW, ma (mK m p e c o X) 31 = X.1 := fun X => rfl
  have hz : 100 * f + s.length < 3200 := by omega
  have hz31 : 100 * f + s.length < 2 ^ 31 := by omega
  have hf31 : f < 2 ^ 31 := by omega
  refine ⟨(upd X.1 f (nI (s.length + 1)), upd X.2.1 (100 * f + s.length) (nI a), upd X.2.2.1 (100 * f + s.length) (nI x), upd X.2.2.2.1 (100 * f + s.length) (nI y), X.2.2.2.2), ?_, ?_, ?_, h4, ?_, ?_⟩
  · unfold f_X9_emit
    simp only [e3, e31, ldI_n (show f < 31 by omega) hf31, h1, some_bind, show (100 : Int32) = nI 100 from rfl, nI_mul, nI_add, ixr_n hz hz31, nI_clamp hz31, mK_32, mK_33, mK_34, ixr_n (show f < 31 by omega) hf31, nI_clamp hf31, nI_1, mK_31]
  · show upd X.1 f (nI (s.length + 1)) f = _
    rw [upd_eq, List.length_append]; rfl
  · intro j q hq
    show upd X.2.1 (100 * f + s.length) (nI a) (100 * f + j) = _ ∧ upd X.2.2.1 (100 * f + s.length) (nI x) (100 * f + j) = _ ∧ upd X.2.2.2.1 (100 * f + s.length) (nI y) (100 * f + j) = _
    rcases app_get hq with ⟨u, v⟩ | ⟨u, v⟩
    · rw [upd_ne (by omega), upd_ne (by omega), upd_ne (by omega)]
      exact h2 j q v
    · rw [u, v, upd_eq, upd_eq, upd_eq]
      exact ⟨rfl, rfl, rfl⟩
  · intro j hj
    show upd X.1 f _ j = _
    rw [upd_ne hj]; exact h5 j hj
  · intro z hz
    show upd X.2.1 _ _ z = _ ∧ upd X.2.2.1 _ _ z = _ ∧ upd X.2.2.2.1 _ _ z = _
    rw [upd_ne (by omega), upd_ne (by omega), upd_ne (by omega)]
    exact h6 z hz
theorem here_loop {b : CS} {m : MS} {T : Nat → Nat} {L f : Nat} (hT : Tap b m T L f) {q c o : Nat} {e : Int32} {X : RW} : ∀ (n p : Nat), Sk T L p q → q + 1 ≤ p + n → f_X9_here_0 n (mK m p e c o X) = some (bM T L q, mK m q e c o X) := by
  intro n
  induction n with
  | zero => intro p h1 h2; have := h1.1; omega
  | succ n ih =>
    intro p h1 h2
    obtain ⟨a1, a2, a3, a4⟩ := id h1
    have hL := hT.1
    have e4 : mi (mK m p e c o X) 4 = nI L := hT.2.2.2.1
    have e5 : mi (mK m p e c o X) 5 = nI p := rfl
    have e30 : ma (mK m p e c o X) 30 = ma m 30 := rfl
    rw [f_X9_here_0, e4, e5]
    by_cases hp : p < L
    · have nle : ¬ nI L ≤ nI p := nI_ge hp (by omega)
      obtain ⟨hb, -, hb3⟩ := hT.2.2.2.2.2 p hp
      rw [if_neg nle, if_neg nle, ldI_n (by omega) (by omega), some_bind, some_bind, e30, hb3]
      by_cases h32 : T p = 32
      · have hpq : p ≠ q := fun e => a4 (by rw [← e]; exact ⟨hp, h32⟩)
        rw [if_pos (show nI (T p) = 32 by rw [h32]; rfl), nI_1, mK_5]
        exact ih (p + 1) ⟨by omega, a2, fun i b1 b2 => a3 i (by omega) b2, a4⟩ (by omega)
      · have hpq : p = q := by
          rcases Nat.lt_or_ge p q with z | z
          · exact absurd (a3 p (Nat.le_refl _) z) h32
          · omega
        subst hpq
        rw [if_neg (show ¬ nI (T p) = (32 : Int32) from fun e => h32 (nI_inj (b := 32) (by omega) (by omega) e))]
        unfold bM
        rw [if_pos hp]
    · have : p = q := by omega
      subst this
      rw [if_pos (nI_le (by omega) (by omega)), if_pos (nI_le (by omega) (by omega))]
      unfold bM
      rw [if_neg hp]
theorem e_here {b : CS} {m : MS} {T : Nat → Nat} {L f : Nat} (hT : Tap b m T L f) {p q c o : Nat} {e : Int32} {X : RW} (h : Sk T L p q) : f_X9_here (mK m p e c o X) = some (bM T L q, mK m q e c o X) :=
  here_loop hT 1000 p h (by have := h.2.1; have := hT.1; omega)
theorem fine_1 {m : MS} {p c o : Nat} {X : RW} : f_X9_fine (mK m p (-1) c o X) = some 1 := if_pos rfl
theorem fine_0 {m : MS} {p c o e : Nat} {X : RW} (he : e < 2 ^ 31) : f_X9_fine (mK m p (nI e) c o X) = some 0 := if_neg (nI_ne_neg he)
theorem wrong_1 {m : MS} {p c o : Nat} {X : RW} : f_X9_wrong (mK m p (-1) c o X) = some (mK m p (nI p) c o X) := by
  unfold f_X9_wrong
  rw [show mi (mK m p (-1) c o X) 6 = -1 from rfl, if_pos rfl, show mi (mK m p (-1) c o X) 5 = nI p from rfl, mK_6]
theorem wrong_0 {m : MS} {p c o e : Nat} {X : RW} (he : e < 2 ^ 31) : f_X9_wrong (mK m p (nI e) c o X) = some (mK m p (nI e) c o X) := if_neg (nI_ne_neg he)
/-! numbers -/
def isD (x : Nat) : Prop := 48 ≤ x ∧ x ≤ 57
theorem dig_8 {cs : CS} {x : Nat} (hx : x < 256) : (isD x → f_X3_isDigit cs (nI x) = some 1) ∧ (¬ isD x → f_X3_isDigit cs (nI x) = some 0) := by
  unfold f_X3_isDigit isD
  by_cases a : x < 48
  · rw [if_pos (show nI x < (48 : Int32) from nI_lt (b := 48) a (by omega))]
    exact ⟨fun h => by omega, fun _ => rfl⟩
  · rw [if_neg (show ¬ nI x < (48 : Int32) from nI_nlt (b := 48) (by omega) (by omega))]
    by_cases c : 57 < x
    · rw [if_pos (show (57 : Int32) < nI x from nI_lt (a := 57) c (by omega))]
      exact ⟨fun h => by omega, fun _ => rfl⟩
    · rw [if_neg (show ¬ (57 : Int32) < nI x from nI_nlt (a := 57) (by omega) (by omega))]
      exact ⟨fun _ => rfl, fun h => by omega⟩
theorem dig_9 {ms : MS} {x : Nat} (hx : x < 256) : (isD x → f_X9_isDigit ms (nI x) = some 1) ∧ (¬ isD x → f_X9_isDigit ms (nI x) = some 0) := dig_8 (cs := (fun _ => 0, fun _ => 0, fun _ _ => 0, fun _ _ => 0, fun _ _ => none, [], fun _ => 0, fun _ _ => 0)) hx
theorem num_step {v d : Nat} (hd : isD d) : nI v * 10 + nI d - 48 = nI (10 * v + (d - 48)) ∧ (10 : Int32) * nI v + nI d - 48 = nI (10 * v + (d - 48)) := by
  have h : nI (10 * v + (d - 48)) = nI (10 * v + d) - 48 := by
    have e : nI (10 * v + (d - 48)) + nI 48 = nI (10 * v + d) := by
      rw [nI_add]; congr 1; have := hd.1; omega
    rw [← e]
    show _ = _ + (48 : Int32) - 48
    grind
  rw [h, show (10 : Int32) = nI 10 from rfl, nI_mul, nI_mul, nI_add, nI_add, Nat.mul_comm v 10]
  exact ⟨rfl, rfl⟩
theorem num_loop {b : CS} {m : MS} {T : Nat → Nat} {L f : Nat} (hT : Tap b m T L f) {z c o : Nat} {S : Nat → Int32} {X : RW} : ∀ (n p val cnt : Nat), p ≤ L → cnt ≤ 4 → 7 ≤ cnt + n → val < 10 ^ cnt → ∃ p' v', p ≤ p' ∧ p' ≤ L ∧ v' < 10000 ∧ f_X3_readNumber_23 n (cK b p z 0 S) (bC T L p) (nI val) (nI cnt) = some (nI v', cK b p' z 0 S) ∧ ((¬ (p' < L ∧ isD (T p')) ∧ f_X9_digits_18 n (mK m p (-1) c o X) (nI val) (nI cnt) = some (nI v', mK m p' (-1) c o X)) ∨ (p' < L ∧ isD (T p') ∧ f_X9_digits_18 n (mK m p (-1) c o X) (nI val) (nI cnt) = some (nI v', mK m p' (nI p') c o X))) := by
  intro n
  induction n with
  | zero => intro p val cnt h1 h2 h3; omega
  | succ n ih =>
    intro p val cnt h1 h2 h3 h4
    have hL := hT.1
    have e4 : mi (mK m p (-1) c o X) 4 = nI L := hT.2.2.2.1
    have e5 : mi (mK m p (-1) c o X) 5 = nI p := rfl
    have e30 : ma (mK m p (-1) c o X) 30 = ma m 30 := rfl
    have hv : val < 10000 := Nat.lt_of_lt_of_le h4 (by
      have := Nat.pow_le_pow_right (n := 10) (by omega) h2
      omega)
    rw [f_X3_readNumber_23, f_X9_digits_18, fine_1, some_bind, if_neg one_ne, e4, e5]
    by_cases hp : p < L
    · obtain ⟨hb, -, hb3⟩ := hT.2.2.2.2.2 p hp
      have eb : bC T L p = nI (T p) := if_pos hp
      rw [if_neg (nI_ge hp (by omega)), ldI_n (by omega) (by omega), some_bind, some_bind, e30, hb3, eb]
      by_cases hd : isD (T p)
      · rw [(dig_8 hb).1 hd, (dig_9 hb).1 hd, some_bind, some_bind, if_neg one_ne, if_neg one_ne]
        by_cases c4 : cnt = 4
        · subst c4
          refine ⟨p, val, Nat.le_refl _, h1, hv, if_pos (by decide), Or.inr ⟨hp, hd, ?_⟩⟩
          rw [if_pos (show nI 4 = (4 : Int32) from rfl), wrong_1, some_bind]
          obtain ⟨n', rfl⟩ : ∃ n', n = n' + 1 := ⟨n - 1, by omega⟩
          rw [f_X9_digits_18, fine_0 (by omega), some_bind, if_pos rfl]
        · have c4' : ¬ (4 : Int32) ≤ nI cnt := nI_ge (b := 4) (by omega) (by omega)
          rw [if_neg c4', if_neg (show ¬ nI cnt = (4 : Int32) from fun y => c4 (nI_inj (b := 4) (by omega) (by omega) y)), show ci (cK b p z 0 S) 8 = nI p from rfl, nI_1, cK_8, c_here hT (by omega), some_bind, mK_5, (num_step hd).1, (num_step hd).2, nI_1]
          have hlt : 10 * val + (T p - 48) < 10 ^ (cnt + 1) := by
            have := hd.2
            rw [Nat.pow_succ]; omega
          obtain ⟨p', v', r1, r2, r3, r4, r5⟩ := ih (p + 1) (10 * val + (T p - 48)) (cnt + 1) (by omega) (by omega) (by omega) hlt
          exact ⟨p', v', by omega, r2, r3, r4, r5⟩
      · rw [(dig_8 hb).2 hd, (dig_9 hb).2 hd, some_bind, some_bind, if_pos rfl, if_pos rfl]
        refine ⟨p, val, Nat.le_refl _, h1, hv, ?_, Or.inl ⟨fun h => hd h.2, rfl⟩⟩
        split <;> rfl
    · have eb : bC T L p = -1 := if_neg hp
      rw [if_pos (nI_le (by omega) (by omega)), eb]
      refine ⟨p, val, Nat.le_refl _, h1, hv, ?_, Or.inl ⟨fun h => hp h.1, rfl⟩⟩
      have : f_X3_isDigit (cK b p z 0 S) (-1) = some 0 := if_pos (by decide)
      rw [this, some_bind, if_pos rfl]
      split <;> rfl
/-- a number: none; one; or one with a digit too many -/
theorem num_n {b : CS} {m : MS} {T : Nat → Nat} {L f : Nat} (hT : Tap b m T L f) {p q z c o : Nat} {S : Nat → Int32} {X : RW} (h : Sk T L p q) : (f_X3_readNumber (cK b p z 0 S) = some (0, cK b q z 1 S) ∧ f_X9_digits (mK m p (-1) c o X) = some (0, mK m q (nI q) c o X)) ∨ (∃ p' v, q < p' ∧ p' ≤ L ∧ v < 10000 ∧ f_X3_readNumber (cK b p z 0 S) = some (nI v, cK b p' z 0 S) ∧ ((¬ (p' < L ∧ isD (T p')) ∧ f_X9_digits (mK m p (-1) c o X) = some (nI v, mK m p' (-1) c o X)) ∨ (p' < L ∧ isD (T p') ∧ f_X9_digits (mK m p (-1) c o X) = some (nI v, mK m p' (nI p') c o X)))) := by
  have hqL := h.2.1
  have hL := hT.1
  unfold f_X3_readNumber f_X9_digits
  rw [c_next hT h, b2_some, e_here hT h, b2_some]
  by_cases hq : q < L
  · obtain ⟨hb, -, hb3⟩ := hT.2.2.2.2.2 q hq
    have eb : bC T L q = nI (T q) := if_pos hq
    have em : bM T L q = nI (T q) := if_pos hq
    by_cases hd : isD (T q)
    · obtain ⟨p', v, r1, r2, r3, r4, r5⟩ := num_loop hT (z := z) (c := c) (o := o) (S := S) (X := X) 1000 q 0 0 hqL (by omega) (by omega) (by omega)
      have hne : q ≠ p' := by
        intro e
        subst e
        rcases r5 with ⟨r5, -⟩ | ⟨-, -, r5⟩
        · exact r5 ⟨hq, hd⟩
        · have key : f_X9_digits_18 (999 + 1) (mK m q (-1) c o X) (nI 0) (nI 0) = some (nI v, mK m q (nI q) c o X) := r5
          rw [f_X9_digits_18, fine_1, some_bind, if_neg one_ne, show mi (mK m q (-1) c o X) 4 = nI L from hT.2.2.2.1, show mi (mK m q (-1) c o X) 5 = nI q from rfl, if_neg (nI_ge hq (by omega)), ldI_n (by omega) (by omega), some_bind, some_bind, show ma (mK m q (-1) c o X) 30 = ma m 30 from rfl, hb3, (dig_9 hb).1 hd, some_bind, if_neg one_ne, if_neg (by decide), nI_1, mK_5] at key
          have key2 : f_X9_digits_18 999 (mK m (q + 1) (-1) c o X) (10 * nI 0 + nI (T q) - 48) (nI 0 + 1) = some (nI v, mK m q (nI q) c o X) := key
          rw [(num_step hd).2, nI_1] at key2
          obtain ⟨p2, v2, s1, s2, s3, s4, s5⟩ := num_loop hT (z := z) (c := c) (o := o) (S := S) (X := X) 999 (q + 1) (10 * 0 + (T q - 48)) (0 + 1) (by omega) (by omega) (by omega) (by have := hd.2; omega)
          have e5 : ∀ (p : Nat) (e : Int32), mi (mK m p e c o X) 5 = nI p := fun _ _ => rfl
          rcases s5 with ⟨-, s5⟩ | ⟨-, -, s5⟩
          · rw [s5] at key2
            have := congrArg (fun y => mi y 5) (Prod.mk.inj (Option.some.inj key2)).2
            have := nI_inj (by omega) (by omega) this
            omega
          · rw [s5] at key2
            have := congrArg (fun y => mi y 5) (Prod.mk.inj (Option.some.inj key2)).2
            have := nI_inj (by omega) (by omega) this
            omega
      right
      rw [eb, em, (dig_8 hb).1 hd, (dig_9 hb).1 hd, some_bind, some_bind, if_neg one_ne, if_neg one_ne]
      rw [eb] at r4
      exact ⟨p', v, by omega, r2, r3, r4, r5⟩
    · left
      rw [eb, em, (dig_8 hb).2 hd, (dig_9 hb).2 hd, some_bind, some_bind, if_pos rfl, if_pos rfl, cK_10, wrong_1, some_bind]
      refine ⟨rfl, ?_⟩
      show f_X9_digits_18 (999 + 1) (mK m q (nI q) c o X) 0 0 = _
      rw [f_X9_digits_18, fine_0 (by omega), some_bind, if_pos rfl]
  · left
    have eb : bC T L q = -1 := if_neg hq
    have em : bM T L q = 0 := if_neg hq
    have d8 : f_X3_isDigit (cK b q z 0 S) (-1) = some 0 := if_pos (by decide)
    have d9 : f_X9_isDigit (mK m q (-1) c o X) 0 = some 0 := if_pos (by decide)
    rw [eb, em, d8, d9, some_bind, some_bind, if_pos rfl, if_pos rfl, cK_10, wrong_1, some_bind]
    refine ⟨rfl, ?_⟩
    show f_X9_digits_18 (999 + 1) (mK m q (nI q) c o X) 0 0 = _
    rw [f_X9_digits_18, fine_0 (by omega), some_bind, if_pos rfl]
theorem num_1 {b : CS} {p z : Nat} {S : Nat → Int32} : f_X3_readNumber (cK b p z 1 S) = some (0, cK b p z 1 S) := by
  unfold f_X3_readNumber
  rw [c_next1, b2_some, show f_X3_isDigit (cK b p z 1 S) (-1) = some 0 from if_pos (by decide), some_bind, if_pos rfl, cK_10]
theorem let_1 {b : CS} {p z : Nat} {S : Nat → Int32} : f_X3_readLetter (cK b p z 1 S) = some (0, cK b p z 1 S) := by
  unfold f_X3_readLetter
  rw [c_next1, b2_some, if_pos (show (-1 : Int32) < 97 by decide), cK_10]

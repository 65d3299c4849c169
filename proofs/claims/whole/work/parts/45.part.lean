/-! ===== part ===== -/
theorem lgc_lt {x y : Int64} : lg_cmp x y < 0 ↔ x.toInt < y.toInt := by
  unfold lg_cmp
  have e : x = y ↔ x.toInt = y.toInt := Int64.toInt_inj.symm
  have g : x > y ↔ y.toInt < x.toInt := Int64.lt_iff_toInt_lt
  by_cases a : x > y
  · rw [if_pos a]
    have := g.mp a
    refine ⟨fun z => absurd z (by decide), fun z => by omega⟩
  · rw [if_neg a]
    by_cases b : x = y
    · rw [if_pos b]
      have := e.mp b
      refine ⟨fun z => absurd z (by decide), fun z => by omega⟩
    · rw [if_neg b]
      refine ⟨fun _ => ?_, fun _ => by decide⟩
      have h1 : ¬ y.toInt < x.toInt := fun z => a (g.mpr z)
      have h2 : ¬ x.toInt = y.toInt := fun z => b (e.mpr z)
      omega
theorem lgc_le {x y : Int64} : lg_cmp x y ≤ 0 ↔ x.toInt ≤ y.toInt := by
  unfold lg_cmp
  have e : x = y ↔ x.toInt = y.toInt := Int64.toInt_inj.symm
  have g : x > y ↔ y.toInt < x.toInt := Int64.lt_iff_toInt_lt
  by_cases a : x > y
  · rw [if_pos a]
    have := g.mp a
    refine ⟨fun z => absurd z (by decide), fun z => by omega⟩
  · rw [if_neg a]
    have h1 : ¬ y.toInt < x.toInt := fun z => a (g.mpr z)
    by_cases b : x = y
    · rw [if_pos b]
      refine ⟨fun _ => by omega, fun _ => by decide⟩
    · rw [if_neg b]
      refine ⟨fun _ => by omega, fun _ => by decide⟩
theorem lgc_eq {x y : Int64} : lg_cmp x y = 0 ↔ x = y := by
  unfold lg_cmp
  by_cases a : x > y
  · rw [if_pos a]
    refine ⟨fun z => absurd z (by decide), fun z => ?_⟩
    have := Int64.lt_iff_toInt_lt.mp a
    rw [z] at this
    omega
  · rw [if_neg a]
    by_cases b : x = y
    · rw [if_pos b]; exact ⟨fun _ => b, fun _ => rfl⟩
    · rw [if_neg b]; exact ⟨fun z => absurd z (by decide), fun z => absurd z b⟩
/-- what each of a part's numbers must lie between -/
def plo (w : Nat) : Int := if w = 0 then 0 else if w = 1 then 0 else if w = 2 then -1 else if w = 3 then 1 else if w = 4 then 1 else if w = 5 then 0 else if w = 6 then 0 else -1
def phi (n M : Nat) (w : Nat) : Int := if w = 0 then 5 else if w = 1 then 99 else if w = 2 then n - 1 else if w = 3 then 240 else if w = 4 then 200000 else if w = 5 then 3 else if w = 6 then 100000 else M - 1
theorem nI64 {n : Nat} (h : n < 2 ^ 31) : (nI n).toInt64.toInt = n := by
  rw [Int32.toInt_toInt64, nI_toInt h]
theorem nI64m {n : Nat} (h : n < 2 ^ 31) : (nI n - 1).toInt64.toInt = (n : Int) - 1 := by
  cases n with
  | zero => decide
  | succ j =>
    rw [nI_sub1 (by omega), Nat.add_sub_cancel, nI64 (by omega)]
    omega
theorem beyond_n {cs : CS} {m n M w : Nat} {v : Int64} (hm : m < 8) (hn : n ≤ 24) (hM : M ≤ 30) (e20 : ca cs 20 m = nI n) (e5 : ci cs 5 = nI M) (hw : w < 8) : f_X8_isBeyond cs (nI m) (nI w) v = some (if plo w ≤ v.toInt ∧ v.toInt ≤ phi n M w then 0 else 1) := by
  unfold f_X8_isBeyond f_X4_made
  rw [parts_n hm, e20, e5]
  rcases (show w = 0 ∨ w = 1 ∨ w = 2 ∨ w = 3 ∨ w = 4 ∨ w = 5 ∨ w = 6 ∨ w = 7 by omega) with rfl | rfl | rfl | rfl | rfl | rfl | rfl | rfl
  · rw [if_pos (show nI 0 = 0 from rfl)]
    have c : plo 0 = 0 := rfl
    have d : phi n M 0 = 5 := rfl
    have l : (0 : Int64).toInt = 0 := rfl
    by_cases a : v.toInt < 0
    · rw [if_pos (lgc_lt.mpr (by rw [l]; exact a)), if_neg (by omega)]
    rw [if_neg (fun z => a (by have := lgc_lt.mp z; rw [l] at this; exact this))]
    have h : (5 : Int64).toInt = 5 := rfl
    by_cases b : v.toInt ≤ 5
    · rw [if_pos (lgc_le.mpr (by rw [h]; exact b)), if_pos (by omega)]
    · rw [if_neg (fun z => b (by have := lgc_le.mp z; rw [h] at this; exact this)), if_neg (by omega)]
  · rw [if_neg (show ¬ nI 1 = 0 by decide), if_pos (show nI 1 = 1 from rfl)]
    have c : plo 1 = 0 := rfl
    have d : phi n M 1 = 99 := rfl
    have l : (0 : Int64).toInt = 0 := rfl
    by_cases a : v.toInt < 0
    · rw [if_pos (lgc_lt.mpr (by rw [l]; exact a)), if_neg (by omega)]
    rw [if_neg (fun z => a (by have := lgc_lt.mp z; rw [l] at this; exact this))]
    have h : (99 : Int64).toInt = 99 := rfl
    by_cases b : v.toInt ≤ 99
    · rw [if_pos (lgc_le.mpr (by rw [h]; exact b)), if_pos (by omega)]
    · rw [if_neg (fun z => b (by have := lgc_le.mp z; rw [h] at this; exact this)), if_neg (by omega)]
  · rw [if_neg (show ¬ nI 2 = 0 by decide), if_neg (show ¬ nI 2 = 1 by decide), if_pos (show nI 2 = 2 from rfl)]
    have c : plo 2 = -1 := rfl
    have d : phi n M 2 = (n : Int) - 1 := rfl
    have l : (-1 : Int64).toInt = -1 := rfl
    by_cases a : v.toInt < -1
    · rw [if_pos (lgc_lt.mpr (by rw [l]; exact a)), if_neg (by omega)]
    rw [if_neg (fun z => a (by have := lgc_lt.mp z; rw [l] at this; exact this))]
    rw [some_bind]
    by_cases b : v.toInt < n
    · rw [if_pos (lgc_lt.mpr (by rw [nI64 (by omega)]; exact b)), if_pos (by omega)]
    · rw [if_neg (fun z => b (by have := lgc_lt.mp z; rw [nI64 (by omega)] at this; exact this)), if_neg (by omega)]
  · rw [if_neg (show ¬ nI 3 = 0 by decide), if_neg (show ¬ nI 3 = 1 by decide), if_neg (show ¬ nI 3 = 2 by decide), if_pos (show nI 3 = 3 from rfl)]
    have c : plo 3 = 1 := rfl
    have d : phi n M 3 = 240 := rfl
    have l : (1 : Int64).toInt = 1 := rfl
    by_cases a : v.toInt < 1
    · rw [if_pos (lgc_lt.mpr (by rw [l]; exact a)), if_neg (by omega)]
    rw [if_neg (fun z => a (by have := lgc_lt.mp z; rw [l] at this; exact this))]
    have h : (240 : Int64).toInt = 240 := rfl
    by_cases b : v.toInt ≤ 240
    · rw [if_pos (lgc_le.mpr (by rw [h]; exact b)), if_pos (by omega)]
    · rw [if_neg (fun z => b (by have := lgc_le.mp z; rw [h] at this; exact this)), if_neg (by omega)]
  · rw [if_neg (show ¬ nI 4 = 0 by decide), if_neg (show ¬ nI 4 = 1 by decide), if_neg (show ¬ nI 4 = 2 by decide), if_neg (show ¬ nI 4 = 3 by decide), if_pos (show nI 4 = 4 from rfl)]
    have c : plo 4 = 1 := rfl
    have d : phi n M 4 = 200000 := rfl
    have l : (1 : Int64).toInt = 1 := rfl
    by_cases a : v.toInt < 1
    · rw [if_pos (lgc_lt.mpr (by rw [l]; exact a)), if_neg (by omega)]
    rw [if_neg (fun z => a (by have := lgc_lt.mp z; rw [l] at this; exact this))]
    have h : (200000 : Int64).toInt = 200000 := rfl
    by_cases b : v.toInt ≤ 200000
    · rw [if_pos (lgc_le.mpr (by rw [h]; exact b)), if_pos (by omega)]
    · rw [if_neg (fun z => b (by have := lgc_le.mp z; rw [h] at this; exact this)), if_neg (by omega)]
  · rw [if_neg (show ¬ nI 5 = 0 by decide), if_neg (show ¬ nI 5 = 1 by decide), if_neg (show ¬ nI 5 = 2 by decide), if_neg (show ¬ nI 5 = 3 by decide), if_neg (show ¬ nI 5 = 4 by decide), if_pos (show nI 5 = 5 from rfl)]
    have c : plo 5 = 0 := rfl
    have d : phi n M 5 = 3 := rfl
    have l : (0 : Int64).toInt = 0 := rfl
    by_cases a : v.toInt < 0
    · rw [if_pos (lgc_lt.mpr (by rw [l]; exact a)), if_neg (by omega)]
    rw [if_neg (fun z => a (by have := lgc_lt.mp z; rw [l] at this; exact this))]
    have h : (4 : Int64).toInt = 4 := rfl
    by_cases b : v.toInt < 4
    · rw [if_pos (lgc_lt.mpr (by rw [h]; exact b)), if_pos (by omega)]
    · rw [if_neg (fun z => b (by have := lgc_lt.mp z; rw [h] at this; exact this)), if_neg (by omega)]
  · rw [if_neg (show ¬ nI 6 = 0 by decide), if_neg (show ¬ nI 6 = 1 by decide), if_neg (show ¬ nI 6 = 2 by decide), if_neg (show ¬ nI 6 = 3 by decide), if_neg (show ¬ nI 6 = 4 by decide), if_neg (show ¬ nI 6 = 5 by decide), if_pos (show nI 6 = 6 from rfl)]
    have c : plo 6 = 0 := rfl
    have d : phi n M 6 = 100000 := rfl
    have l : (0 : Int64).toInt = 0 := rfl
    by_cases a : v.toInt < 0
    · rw [if_pos (lgc_lt.mpr (by rw [l]; exact a)), if_neg (by omega)]
    rw [if_neg (fun z => a (by have := lgc_lt.mp z; rw [l] at this; exact this))]
    have h : (100000 : Int64).toInt = 100000 := rfl
    by_cases b : v.toInt ≤ 100000
    · rw [if_pos (lgc_le.mpr (by rw [h]; exact b)), if_pos (by omega)]
    · rw [if_neg (fun z => b (by have := lgc_le.mp z; rw [h] at this; exact this)), if_neg (by omega)]
  · rw [if_neg (show ¬ nI 7 = 0 by decide), if_neg (show ¬ nI 7 = 1 by decide), if_neg (show ¬ nI 7 = 2 by decide), if_neg (show ¬ nI 7 = 3 by decide), if_neg (show ¬ nI 7 = 4 by decide), if_neg (show ¬ nI 7 = 5 by decide), if_neg (show ¬ nI 7 = 6 by decide)]
    have c : plo 7 = -1 := rfl
    have d : phi n M 7 = (M : Int) - 1 := rfl
    have l : (-1 : Int64).toInt = -1 := rfl
    by_cases a : v.toInt < -1
    · rw [if_pos (lgc_lt.mpr (by rw [l]; exact a)), if_neg (by omega)]
    rw [if_neg (fun z => a (by have := lgc_lt.mp z; rw [l] at this; exact this))]
    rw [some_bind]
    by_cases b : v.toInt < M
    · rw [if_pos (lgc_lt.mpr (by rw [nI64 (by omega)]; exact b)), if_pos (by omega)]
    · rw [if_neg (fun z => b (by have := lgc_lt.mp z; rw [nI64 (by omega)] at this; exact this)), if_neg (by omega)]
theorem least_n {ms : MS} {w : Nat} (hw : w < 8) : ∃ l, f_X9_least ms (nI w) = some l ∧ l.toInt = plo w := by
  unfold f_X9_least
  rcases (show w = 0 ∨ w = 1 ∨ w = 2 ∨ w = 3 ∨ w = 4 ∨ w = 5 ∨ w = 6 ∨ w = 7 by omega) with rfl | rfl | rfl | rfl | rfl | rfl | rfl | rfl
  · exact ⟨0, rfl, rfl⟩
  · exact ⟨0, rfl, rfl⟩
  · exact ⟨-1, rfl, rfl⟩
  · exact ⟨1, rfl, rfl⟩
  · exact ⟨1, rfl, rfl⟩
  · exact ⟨0, rfl, rfl⟩
  · exact ⟨0, rfl, rfl⟩
  · exact ⟨-1, rfl, rfl⟩
theorem most_n {ms : MS} {m n M w : Nat} (hm : m < 8) (hn : n ≤ 24) (hM : M ≤ 30) (e37 : ma ms 37 m = nI n) (e3 : mi ms 3 = nI M) (hw : w < 8) : ∃ h, f_X9_most ms (nI w) (nI m) = some h ∧ h.toInt = phi n M w := by
  unfold f_X9_most
  rw [ldI_n hm (by omega), some_bind, e37, e3]
  rcases (show w = 0 ∨ w = 1 ∨ w = 2 ∨ w = 3 ∨ w = 4 ∨ w = 5 ∨ w = 6 ∨ w = 7 by omega) with rfl | rfl | rfl | rfl | rfl | rfl | rfl | rfl
  · exact ⟨5, rfl, rfl⟩
  · exact ⟨99, rfl, rfl⟩
  · exact ⟨(nI n - 1).toInt64, rfl, nI64m (by omega)⟩
  · exact ⟨240, rfl, rfl⟩
  · exact ⟨200000, rfl, rfl⟩
  · exact ⟨3, rfl, rfl⟩
  · exact ⟨100000, rfl, rfl⟩
  · exact ⟨(nI M - 1).toInt64, rfl, nI64m (by omega)⟩
/-- what a row says, -1 behind its end -/
def rowX (ms : MS) (r k w : Nat) : Int64 := if w < k then mb ms 29 (12 * r + w) else -1
/-- a sheet's row that both hold -/
def RowAt (cs : CS) (ms : MS) (r k : Nat) : Prop := r < 128 ∧ k ≤ 12 ∧ ca cs 13 r = nI k ∧ ∀ w, w < k → cb cs 14 (12 * r + w) = mb ms 29 (12 * r + w)
theorem says_row {cs : CS} {ms : MS} {r k w : Nat} (h : RowAt cs ms r k) (hw : w < 12) : f_X8_rowSays cs (nI r) (nI w) = some (rowX ms r k w) := by
  obtain ⟨hr, hk, e, hv⟩ := h
  unfold f_X8_rowSays f_X7_read rowX
  rw [lengthAt_n hr, some_bind, e]
  by_cases q : w < k
  · rw [if_neg (nI_ge q (by omega)), placeOf_n hr hk e (by omega), if_pos q, some_bind, if_neg (nI_ne_neg (by omega)), ldL_n (by omega) (by omega), some_bind, some_bind, if_pos q, hv w q]
  · rw [if_pos (nI_le (by omega) (by omega)), if_neg q]
def okN (ms : MS) (r k n M w : Nat) : Prop := plo w ≤ (rowX ms r k w).toInt ∧ (rowX ms r k w).toInt ≤ phi n M w
theorem beyond8 {cs : CS} {ms : MS} {m n M r k : Nat} (hm : m < 8) (hn : n ≤ 24) (hM : M ≤ 30) (e20 : ca cs 20 m = nI n) (e5 : ci cs 5 = nI M) (hR : RowAt cs ms r k) : ∀ (f w : Nat), w ≤ 8 → 9 ≤ w + f → ((∀ j, w ≤ j → j < 8 → okN ms r k n M j) ∧ f_X8_hasNumberBeyond_2 f cs (nI m) (nI r) (nI w) = some 0) ∨ ((∃ j, w ≤ j ∧ j < 8 ∧ ¬ okN ms r k n M j) ∧ f_X8_hasNumberBeyond_2 f cs (nI m) (nI r) (nI w) = some 1) := by
  intro f
  induction f with
  | zero => intro w h1 h2; omega
  | succ f ih =>
    intro w h1 h2
    rw [f_X8_hasNumberBeyond_2]
    by_cases q : w = 8
    · subst q
      rw [if_pos (by decide)]
      exact Or.inl ⟨fun j a b => by omega, rfl⟩
    rw [if_neg (show ¬ (8 : Int32) ≤ nI w from nI_ge (b := 8) (by omega) (by omega)), says_row hR (by omega), some_bind, beyond_n hm hn hM e20 e5 (by omega), some_bind]
    by_cases ok : plo w ≤ (rowX ms r k w).toInt ∧ (rowX ms r k w).toInt ≤ phi n M w
    · rw [if_pos ok, if_pos rfl, nI_1]
      rcases ih (w + 1) (by omega) (by omega) with ⟨a, b⟩ | ⟨⟨j, a1, a2, a3⟩, b⟩
      · refine Or.inl ⟨fun j c d => ?_, b⟩
        by_cases z : j = w
        · rw [z]; exact ok
        · exact a j (by omega) d
      · exact Or.inr ⟨⟨j, by omega, a2, a3⟩, b⟩
    · rw [if_neg ok, if_neg one_ne]
      exact Or.inr ⟨⟨w, by omega, by omega, ok⟩, rfl⟩
theorem beyond9 {ms : MS} {m n M r k : Nat} (hm : m < 8) (hn : n ≤ 24) (hM : M ≤ 30) (e37 : ma ms 37 m = nI n) (e3 : mi ms 3 = nI M) (hr : r < 128) (hk7 : 7 ≤ k) (hk : k ≤ 12) : ∀ (f w : Nat), w ≤ 8 → 9 ≤ w + f → ((∀ j, w ≤ j → j < 8 → okN ms r k n M j) ∧ ∃ kk : MS → Int32 → Int32 → Int32 → Int32 → Option (Int32 × MS), f_X9_part_78 f ms (nI m) (nI r) (nI k) (nI w) = f_X9_part_148 kk ms (nI m) (nI r) (nI k)) ∨ ((∃ j, w ≤ j ∧ j < 8 ∧ ¬ okN ms r k n M j) ∧ f_X9_part_78 f ms (nI m) (nI r) (nI k) (nI w) = some (-3, ms)) := by
  intro f
  induction f with
  | zero => intro w h1 h2; omega
  | succ f ih =>
    intro w h1 h2
    rw [f_X9_part_78]
    by_cases q : w = 8
    · subst q
      rw [if_pos (by decide)]
      exact Or.inl ⟨fun j a b => by omega, _, rfl⟩
    rw [if_neg (show ¬ (8 : Int32) ≤ nI w from nI_ge (b := 8) (by omega) (by omega))]
    by_cases q2 : k ≤ w
    · rw [if_pos (nI_le q2 (by omega))]
      refine Or.inl ⟨fun j a b => ?_, _, rfl⟩
      have j7 : j = 7 := by omega
      have k7 : k = 7 := by omega
      subst j7
      unfold okN rowX
      rw [if_neg (by omega)]
      have : phi n M 7 = (M : Int) - 1 := rfl
      rw [this, show plo 7 = -1 from rfl, show ((-1 : Int64)).toInt = -1 from rfl]
      omega
    obtain ⟨l, l1, l2⟩ := least_n (ms := ms) (w := w) (by omega)
    obtain ⟨h, g1, g2⟩ := most_n (ms := ms) (w := w) hm hn hM e37 e3 (by omega)
    have hX : rowX ms r k w = mb ms 29 (12 * r + w) := if_pos (by omega)
    rw [if_neg (nI_ge (by omega) (by omega)), l12, nI_mul, nI_add, ldL_n (by omega) (by omega), some_bind, l1, some_bind, some_bind, g1, some_bind, ← hX]
    have bad : ¬ okN ms r k n M w → (∃ j, w ≤ j ∧ j < 8 ∧ ¬ okN ms r k n M j) := fun z => ⟨w, by omega, by omega, z⟩
    by_cases a : (rowX ms r k w).toInt < plo w
    · rw [if_pos (lgc_lt.mpr (by rw [l2]; exact a))]
      exact Or.inr ⟨bad (fun z => by have := z.1; omega), rfl⟩
    rw [if_neg (fun z => a (by have := lgc_lt.mp z; rw [l2] at this; exact this))]
    by_cases b : (rowX ms r k w).toInt ≤ phi n M w
    · rw [if_pos (lgc_le.mpr (by rw [g2]; exact b)), nI_1]
      rcases ih (w + 1) (by omega) (by omega) with ⟨c, d⟩ | ⟨⟨j, a1, a2, a3⟩, d⟩
      · refine Or.inl ⟨fun j e f => ?_, d⟩
        by_cases z : j = w
        · rw [z]; exact ⟨by omega, b⟩
        · exact c j (by omega) f
      · exact Or.inr ⟨⟨j, by omega, a2, a3⟩, d⟩
    · rw [if_neg (fun z => b (by have := lgc_le.mp z; rw [g2] at this; exact this))]
      exact Or.inr ⟨bad (fun z => b z.2), rfl⟩
/-! the shell's rule -/
theorem shell8 {cs : CS} {ms : MS} {m n : Nat} (hMd : RMd cs ms) (hm : m < 8) (hn : n ≤ 24) (e20 : ca cs 20 m = nI n) (e37 : ma ms 37 m = nI n) : ∀ (f p : Nat), p ≤ n → n + 1 ≤ p + f → ((∀ j, p ≤ j → j < n → ma ms 38 (24 * m + j) ≠ 5) ∧ f_X6_hasShell_2 f cs (nI m) (nI p) = some 0) ∨ ((∃ j, p ≤ j ∧ j < n ∧ ma ms 38 (24 * m + j) = 5) ∧ f_X6_hasShell_2 f cs (nI m) (nI p) = some 1) := by
  intro f
  induction f with
  | zero => intro p h1 h2; omega
  | succ f ih =>
    intro p h1 h2
    rw [f_X6_hasShell_2, parts_n hm, some_bind, e20]
    by_cases q : p = n
    · subst q
      rw [if_pos (nI_le (Nat.le_refl _) (by omega))]
      exact Or.inl ⟨fun j a b => by omega, rfl⟩
    obtain ⟨f0, -⟩ := fact_at hMd hm hn e37 (p := p) (by omega)
    rw [if_neg (nI_ge (by omega) (by omega)), f0, some_bind]
    by_cases s : ma ms 38 (24 * m + p) = 5
    · rw [if_pos s]
      exact Or.inr ⟨⟨p, by omega, by omega, s⟩, rfl⟩
    · rw [if_neg s, nI_1]
      rcases ih (p + 1) (by omega) (by omega) with ⟨a, b⟩ | ⟨⟨j, a1, a2, a3⟩, b⟩
      · refine Or.inl ⟨fun j c d => ?_, b⟩
        by_cases z : j = p
        · rw [z]; exact s
        · exact a j (by omega) d
      · exact Or.inr ⟨⟨j, by omega, a2, a3⟩, b⟩
theorem shell9a {ms : MS} {m n : Nat} (hm : m < 8) (hn : n ≤ 24) (e37 : ma ms 37 m = nI n) (v4 v5 v6 v7 : Int32) : ∀ (f p : Nat), p ≤ n → n + 1 ≤ p + f → f_X9_part_182 f ms (nI m) v4 v5 v6 v7 1 (nI p) = some (-4, ms) := by
  intro f
  induction f with
  | zero => intro p h1 h2; omega
  | succ f ih =>
    intro p h1 h2
    rw [f_X9_part_182, ldI_n hm (by omega), some_bind, e37]
    by_cases q : p = n
    · subst q
      rw [if_pos (nI_le (Nat.le_refl _) (by omega)), if_neg one_ne]
    · unfold f_X9_part_220 f_X9_part_225
      rw [if_neg (nI_ge (by omega) (by omega)), if_neg one_ne, nI_1]
      exact ih (p + 1) (by omega) (by omega)
theorem shell9 {ms : MS} {m n : Nat} (hm : m < 8) (hn : n ≤ 24) (e37 : ma ms 37 m = nI n) (v4 v5 v6 v7 : Int32) : ∀ (f p : Nat), p ≤ n → n + 1 ≤ p + f → (v6 = 5 ∧ (∃ j, p ≤ j ∧ j < n ∧ ma ms 38 (24 * m + j) = 5) ∧ f_X9_part_182 f ms (nI m) v4 v5 v6 v7 0 (nI p) = some (-4, ms)) ∨ ((v6 = 5 → ∀ j, p ≤ j → j < n → ma ms 38 (24 * m + j) ≠ 5) ∧ ∃ kk : MS → Int32 → Int32 → Int32 → Int32 → Int32 → Int32 → Int32 → Option (Int32 × MS), f_X9_part_182 f ms (nI m) v4 v5 v6 v7 0 (nI p) = (if v7 = (-1 : Int32) then (f_X9_part_263 kk ms (nI m) v4 v5 v6 v7) else ((ldI (ma ms 38) 192 (((24 : Int32) * (nI m)) + v7)).bind fun q54 => if q54 = (5 : Int32) then (some ((-4 : Int32), ms)) else (f_X9_part_263 kk ms (nI m) v4 v5 v6 v7)))) := by
  intro f
  induction f with
  | zero => intro p h1 h2; omega
  | succ f ih =>
    intro p h1 h2
    rw [f_X9_part_182, ldI_n hm (by omega), some_bind, e37]
    by_cases q : p = n
    · subst q
      rw [if_pos (nI_le (Nat.le_refl _) (by omega)), if_pos rfl]
      exact Or.inr ⟨fun _ j a b => by omega, _, rfl⟩
    unfold f_X9_part_220 f_X9_part_224 f_X9_part_225
    have hz : 24 * m + p < 192 := by omega
    rw [if_neg (nI_ge (by omega) (by omega)), if_pos rfl, nI_1]
    have next : (v6 = 5 → ma ms 38 (24 * m + p) ≠ 5) → (v6 = 5 ∧ (∃ j, p ≤ j ∧ j < n ∧ ma ms 38 (24 * m + j) = 5) ∧ f_X9_part_182 f ms (nI m) v4 v5 v6 v7 0 (nI (p + 1)) = some (-4, ms)) ∨ ((v6 = 5 → ∀ j, p ≤ j → j < n → ma ms 38 (24 * m + j) ≠ 5) ∧ ∃ kk : MS → Int32 → Int32 → Int32 → Int32 → Int32 → Int32 → Int32 → Option (Int32 × MS), f_X9_part_182 f ms (nI m) v4 v5 v6 v7 0 (nI (p + 1)) = (if v7 = (-1 : Int32) then (f_X9_part_263 kk ms (nI m) v4 v5 v6 v7) else ((ldI (ma ms 38) 192 (((24 : Int32) * (nI m)) + v7)).bind fun q54 => if q54 = (5 : Int32) then (some ((-4 : Int32), ms)) else (f_X9_part_263 kk ms (nI m) v4 v5 v6 v7)))) := by
      intro hno
      rcases ih (p + 1) (by omega) (by omega) with ⟨a, ⟨j, a1, a2, a3⟩, b⟩ | ⟨a, b⟩
      · exact Or.inl ⟨a, ⟨j, by omega, a2, a3⟩, b⟩
      · refine Or.inr ⟨fun s j c d => ?_, b⟩
        by_cases z : j = p
        · rw [z]; exact hno s
        · exact a s j (by omega) d
    by_cases s : v6 = 5
    · rw [if_pos s, l24, nI_mul, nI_add, ldI_n hz (by omega), some_bind]
      by_cases t : ma ms 38 (24 * m + p) = 5
      · rw [if_pos t]
        exact Or.inl ⟨s, ⟨p, by omega, by omega, t⟩, shell9a hm hn e37 v4 v5 v6 v7 f (p + 1) (by omega) (by omega)⟩
      · rw [if_neg t]
        rw [l24, nI_mul] at next
        exact next (fun _ => t)
    · rw [if_neg s]
      exact next (fun z => absurd z s)

/-! ===== acts: remembered, the eldest dropped ===== -/
def ca2 (s : CS) (g h : Nat → Int32) : CS := (s.1, s.2.1, fun k => if k = 22 then g else if k = 23 then h else s.2.2.1 k, s.2.2.2)
def ma3 (s : MS) (g h i : Nat → Int32) : MS := (s.1, s.2.1, fun k => if k = 60 then g else if k = 61 then h else if k = 62 then i else s.2.2.1 k, s.2.2.2)
theorem ca2_22 {s : CS} {g h : Nat → Int32} {i : Nat} {v : Int32} : caU (ca2 s g h) 22 i v = ca2 s (upd g i v) h := by
  show (s.1, s.2.1, va_up (fun k => if k = 22 then g else if k = 23 then h else s.2.2.1 k) 22 (upd g i v), s.2.2.2) = _
  unfold ca2 va_up
  congr 3
  funext k
  try dsimp only
  by_cases q : k = 22
  · rw [if_pos q, if_pos q]
  · rw [if_neg q, if_neg q, if_neg q]
theorem ca2_23 {s : CS} {g h : Nat → Int32} {i : Nat} {v : Int32} : caU (ca2 s g h) 23 i v = ca2 s g (upd h i v) := by
  show (s.1, s.2.1, va_up (fun k => if k = 22 then g else if k = 23 then h else s.2.2.1 k) 23 (upd h i v), s.2.2.2) = _
  unfold ca2 va_up
  congr 3
  funext k
  try dsimp only
  by_cases q : k = 23
  · subst q; rfl
  · rw [if_neg q]
    by_cases q2 : k = 22
    · rw [if_pos q2, if_pos q2]
    · rw [if_neg q2, if_neg q2, if_neg q, if_neg q]
theorem ca2_id {s : CS} : s = ca2 s (ca s 22) (ca s 23) := by
  show (s.1, s.2.1, s.2.2.1, s.2.2.2) = _
  unfold ca2
  congr 3
  funext k
  try dsimp only
  by_cases q : k = 22
  · subst q; rfl
  · rw [if_neg q]
    by_cases q2 : k = 23
    · subst q2; rfl
    · rw [if_neg q2]
theorem ma3_60 {s : MS} {g h i : Nat → Int32} {j : Nat} {v : Int32} : maU (ma3 s g h i) 60 j v = ma3 s (upd g j v) h i := by
  show (s.1, s.2.1, va_up (fun k => if k = 60 then g else if k = 61 then h else if k = 62 then i else s.2.2.1 k) 60 (upd g j v), s.2.2.2) = _
  unfold ma3 va_up
  congr 3
  funext k
  try dsimp only
  by_cases q : k = 60
  · rw [if_pos q, if_pos q]
  · rw [if_neg q, if_neg q, if_neg q]
theorem ma3_61 {s : MS} {g h i : Nat → Int32} {j : Nat} {v : Int32} : maU (ma3 s g h i) 61 j v = ma3 s g (upd h j v) i := by
  show (s.1, s.2.1, va_up (fun k => if k = 60 then g else if k = 61 then h else if k = 62 then i else s.2.2.1 k) 61 (upd h j v), s.2.2.2) = _
  unfold ma3 va_up
  congr 3
  funext k
  try dsimp only
  by_cases q : k = 61
  · subst q; rfl
  · rw [if_neg q]
    by_cases q2 : k = 60
    · rw [if_pos q2, if_pos q2]
    · rw [if_neg q2, if_neg q2, if_neg q, if_neg q]
theorem ma3_62 {s : MS} {g h i : Nat → Int32} {j : Nat} {v : Int32} : maU (ma3 s g h i) 62 j v = ma3 s g h (upd i j v) := by
  show (s.1, s.2.1, va_up (fun k => if k = 60 then g else if k = 61 then h else if k = 62 then i else s.2.2.1 k) 62 (upd i j v), s.2.2.2) = _
  unfold ma3 va_up
  congr 3
  funext k
  try dsimp only
  by_cases q : k = 62
  · subst q; rfl
  · rw [if_neg q]
    by_cases q2 : k = 60
    · rw [if_pos q2, if_pos q2]
    · rw [if_neg q2, if_neg q2]
      by_cases q3 : k = 61
      · rw [if_pos q3, if_pos q3]
      · rw [if_neg q3, if_neg q3, if_neg q, if_neg q]
theorem ma3_id {s : MS} : s = ma3 s (ma s 60) (ma s 61) (ma s 62) := by
  show (s.1, s.2.1, s.2.2.1, s.2.2.2) = _
  unfold ma3
  congr 3
  funext k
  try dsimp only
  by_cases q : k = 60
  · subst q; rfl
  · rw [if_neg q]
    by_cases q2 : k = 61
    · subst q2; rfl
    · rw [if_neg q2]
      by_cases q3 : k = 62
      · subst q3; rfl
      · rw [if_neg q3]
theorem nI_sub1 {i : Nat} (h : 1 ≤ i) : nI i - 1 = nI (i - 1) := by
  obtain ⟨j, rfl⟩ : ∃ j, i = j + 1 := ⟨i - 1, by omega⟩
  rw [← nI_1, Int32.add_sub_cancel]; rfl
theorem drop_loop {s : CS} : ∀ (n i : Nat) (g h : Nat → Int32), 1 ≤ i → i ≤ 10 → 11 ≤ i + n → ∃ g' h' : Nat → Int32, f_X0_dropEldest_2 n (ca2 s g h) (nI i) = some (ciU (ca2 s g' h') 11 9) ∧ (∀ j, j < 9 → g' j = if i - 1 ≤ j then g (j + 1) else g j) ∧ ∀ j, j < 9 → h' j = if i - 1 ≤ j then h (j + 1) else h j := by
  intro n
  induction n with
  | zero => intro i g h h0 h1 h2; omega
  | succ n ih =>
    intro i g h h0 h1 h2
    rw [f_X0_dropEldest_2, l10]
    by_cases q : 10 ≤ i
    · rw [if_pos (nI_le q (by omega))]
      exact ⟨g, h, rfl, fun j hj => by rw [if_neg (by omega)], fun j hj => by rw [if_neg (by omega)]⟩
    · rw [if_neg (nI_ge (by omega) (by omega)), show ca (ca2 s g h) 22 = g from rfl, ldI_n (by omega) (by omega), some_bind, nI_sub1 h0, ixr_n (by omega) (by omega), nI_clamp (by omega), ca2_22, show ca (ca2 s (upd g (i - 1) (g i)) h) 23 = h from rfl, ldI_n (by omega) (by omega), some_bind, ixr_n (by omega) (by omega), ca2_23, nI_1]
      obtain ⟨g', h', e1, e2, e3⟩ := ih (i + 1) (upd g (i - 1) (g i)) (upd h (i - 1) (h i)) (by omega) (by omega) (by omega)
      refine ⟨g', h', e1, fun j hj => ?_, fun j hj => ?_⟩
      · rw [e2 j hj]
        by_cases a : i + 1 - 1 ≤ j
        · rw [if_pos a, if_pos (by omega), upd_ne (by omega)]
        · rw [if_neg a]
          by_cases b : j = i - 1
          · rw [if_pos (by omega), b, upd_eq, show i - 1 + 1 = i by omega]
          · rw [if_neg (by omega), upd_ne b]
      · rw [e3 j hj]
        by_cases a : i + 1 - 1 ≤ j
        · rw [if_pos a, if_pos (by omega), upd_ne (by omega)]
        · rw [if_neg a]
          by_cases b : j = i - 1
          · rw [if_pos (by omega), b, upd_eq, show i - 1 + 1 = i by omega]
          · rw [if_neg (by omega), upd_ne b]
/-- the class remembers an act: g and h are its two rows behind it, z how many acts stand before the new one, o how many were dropped -/
theorem remember_n {s : CS} {k : Nat} {v1 v2 : Int32} (hk : k ≤ 10) (e : ci s 11 = nI k) : ∃ (g h : Nat → Int32) (z o : Nat), z + o = k ∧ z ≤ 9 ∧ f_X0_remember s v1 v2 = some (ciU (ca2 s g h) 11 (nI (z + 1))) ∧ (∀ j, j < z → g j = ca s 22 (j + o) ∧ h j = ca s 23 (j + o)) ∧ g z = v1 ∧ h z = v2 ∧ o = k - 9 := by
  unfold f_X0_remember
  rw [e, l10]
  by_cases q : k < 10
  · rw [if_pos (nI_lt q (by omega)), if_neg (nI_pos (by omega)), if_neg (nI_ge (by omega) (by omega)), ixr_n q (by omega)]
    rw [nI_clamp (by omega)]
    have e1 : ci (caU s 22 k v1) 11 = nI k := e
    rw [e1, ixr_n q (by omega), nI_clamp (by omega)]
    have e2 : ci (caU (caU s 22 k v1) 23 k v2) 11 = nI k := e
    rw [e2, nI_1]
    refine ⟨upd (ca s 22) k v1, upd (ca s 23) k v2, k, 0, rfl, by omega, ?_, fun j hj => ⟨upd_ne (by omega), upd_ne (by omega)⟩, upd_eq, upd_eq, by omega⟩
    have e3 : caU (caU s 22 k v1) 23 k v2 = ca2 s (upd (ca s 22) k v1) (upd (ca s 23) k v2) :=
      (congrArg (fun z => caU (caU z 22 k v1) 23 k v2) (ca2_id (s := s))).trans (by rw [ca2_22, ca2_23])
    rw [e3]
  · obtain rfl : k = 10 := by omega
    rw [if_neg (nI_nlt (by omega) (by omega))]
    unfold f_X0_dropEldest
    obtain ⟨g, h, a1, a2, a3⟩ := drop_loop (s := s) 1000 1 (ca s 22) (ca s 23) (by omega) (by omega) (by omega)
    rw [show f_X0_dropEldest_2 1000 s 1 = _ from (congrArg (fun z => f_X0_dropEldest_2 1000 z 1) (ca2_id (s := s))).trans a1, some_bind]
    have e1 : ∀ w, ci (ciU w 11 9) 11 = nI 9 := fun w => rfl
    have e1' : ci (caU (ciU (ca2 s g h) 11 9) 22 9 v1) 11 = nI 9 := rfl
    have e2' : ci (caU (caU (ciU (ca2 s g h) 11 9) 22 9 v1) 23 9 v2) 11 = nI 9 := rfl
    rw [e1, if_neg (nI_pos (by omega)), if_neg (nI_ge (by omega) (by omega)), ixr_n (by omega) (by omega), nI_clamp (by omega), e1', ixr_n (by omega) (by omega), nI_clamp (by omega), e2', nI_1]
    refine ⟨upd g 9 v1, upd h 9 v2, 9, 1, rfl, by omega, ?_, fun j hj => ⟨by rw [upd_ne (by omega), a2 j hj, if_pos (by omega)], by rw [upd_ne (by omega), a3 j hj, if_pos (by omega)]⟩, upd_eq, upd_eq, by omega⟩
    have e3 : ∀ w, ciU (caU (caU (ciU w 11 9) 22 9 v1) 23 9 v2) 11 (nI (9 + 1)) = ciU (caU (caU w 22 9 v1) 23 9 v2) 11 (nI (9 + 1)) := fun w => by
      show (va_up (va_up w.1 11 9) 11 _, _) = _
      rw [va_up_up]
      rfl
    rw [e3, ca2_22, ca2_23]
theorem acted_loop {s : MS} {v1 v2 v3 : Int32} : ∀ (n i : Nat) (g h w : Nat → Int32), i ≤ 9 → 10 ≤ i + n → ∃ g' h' w' : Nat → Int32, f_X9_acted_12 n (ma3 s g h w) v1 v2 v3 (nI i) = some (miU (ma3 s g' h' w') 11 (nI 10)) ∧ (∀ j, j < 9 → g' j = if i ≤ j then g (j + 1) else g j) ∧ (∀ j, j < 9 → h' j = if i ≤ j then h (j + 1) else h j) ∧ (∀ j, j < 9 → w' j = if i ≤ j then w (j + 1) else w j) ∧ g' 9 = v1 ∧ h' 9 = v2 ∧ w' 9 = v3 := by
  intro n
  induction n with
  | zero => intro i g h w h1 h2; omega
  | succ n ih =>
    intro i g h w h1 h2
    rw [f_X9_acted_12]
    by_cases q : 9 ≤ i
    · have e1 : ∀ z, mi (miU z 11 9) 11 = nI 9 := fun z => rfl
      have e2 : ∀ z a, mi (maU (miU z 11 9) 60 9 a) 11 = nI 9 := fun z a => rfl
      have e3 : ∀ z a b, mi (maU (maU (miU z 11 9) 60 9 a) 61 9 b) 11 = nI 9 := fun z a b => rfl
      have e4 : ∀ z a b d, mi (maU (maU (maU (miU z 11 9) 60 9 a) 61 9 b) 62 9 d) 11 = nI 9 := fun z a b d => rfl
      rw [if_pos (show (9 : Int32) ≤ nI i from nI_le (a := 9) q (by omega)), e1, ixr_n (by omega) (by omega), nI_clamp (by omega), e2, ixr_n (by omega) (by omega), nI_clamp (by omega), e3, ixr_n (by omega) (by omega), nI_clamp (by omega), e4, nI_1]
      have e5 : ∀ z, miU (maU (maU (maU (miU z 11 9) 60 9 v1) 61 9 v2) 62 9 v3) 11 (nI (9 + 1)) = miU (maU (maU (maU z 60 9 v1) 61 9 v2) 62 9 v3) 11 (nI 10) := fun z => by
        show (va_up (va_up z.1 11 9) 11 _, _) = _
        rw [va_up_up]
        rfl
      rw [e5, ma3_60, ma3_61, ma3_62]
      exact ⟨_, _, _, rfl, fun j hj => by rw [if_neg (by omega), upd_ne (by omega)], fun j hj => by rw [if_neg (by omega), upd_ne (by omega)], fun j hj => by rw [if_neg (by omega), upd_ne (by omega)], upd_eq, upd_eq, upd_eq⟩
    · rw [if_neg (show ¬ (9 : Int32) ≤ nI i from nI_ge (b := 9) (by omega) (by omega)), nI_1, show ma (ma3 s g h w) 60 = g from rfl, ldI_n (by omega) (by omega), some_bind, ixr_n (by omega) (by omega), nI_clamp (by omega), ma3_60, show ma (ma3 s (upd g i (g (i + 1))) h w) 61 = h from rfl, ldI_n (by omega) (by omega), some_bind, ixr_n (by omega) (by omega), ma3_61, show ma (ma3 s (upd g i (g (i + 1))) (upd h i (h (i + 1))) w) 62 = w from rfl, ldI_n (by omega) (by omega), some_bind, ixr_n (by omega) (by omega), ma3_62]
      obtain ⟨g', h', w', a0, a1, a2, a3, a4⟩ := ih (i + 1) (upd g i (g (i + 1))) (upd h i (h (i + 1))) (upd w i (w (i + 1))) (by omega) (by omega)
      refine ⟨g', h', w', a0, fun j hj => ?_, fun j hj => ?_, fun j hj => ?_, a4⟩
      · rw [a1 j hj]
        by_cases a : i + 1 ≤ j
        · rw [if_pos a, if_pos (by omega), upd_ne (by omega)]
        · rw [if_neg a]
          by_cases b : j = i
          · rw [if_pos (by omega), b, upd_eq]
          · rw [if_neg (by omega), upd_ne b]
      · rw [a2 j hj]
        by_cases a : i + 1 ≤ j
        · rw [if_pos a, if_pos (by omega), upd_ne (by omega)]
        · rw [if_neg a]
          by_cases b : j = i
          · rw [if_pos (by omega), b, upd_eq]
          · rw [if_neg (by omega), upd_ne b]
      · rw [a3 j hj]
        by_cases a : i + 1 ≤ j
        · rw [if_pos a, if_pos (by omega), upd_ne (by omega)]
        · rw [if_neg a]
          by_cases b : j = i
          · rw [if_pos (by omega), b, upd_eq]
          · rw [if_neg (by omega), upd_ne b]
/-- the reference's act -/
theorem acted_n {s : MS} {k : Nat} {v1 v2 v3 : Int32} (hk : k ≤ 10) (e : mi s 11 = nI k) : ∃ (g h w : Nat → Int32) (z o : Nat), z + o = k ∧ z ≤ 9 ∧ f_X9_acted s v1 v2 v3 = some (miU (ma3 s g h w) 11 (nI (z + 1))) ∧ (∀ j, j < z → g j = ma s 60 (j + o) ∧ h j = ma s 61 (j + o) ∧ w j = ma s 62 (j + o)) ∧ g z = v1 ∧ h z = v2 ∧ w z = v3 ∧ o = k - 9 := by
  unfold f_X9_acted
  rw [e, l10]
  by_cases q : k = 10
  · subst q
    rw [if_pos rfl]
    obtain ⟨g, h, w, a1, a2, a3, a4, a5, a6, a7⟩ := acted_loop (s := s) (v1 := v1) (v2 := v2) (v3 := v3) 1000 0 (ma s 60) (ma s 61) (ma s 62) (by omega) (by omega)
    rw [show f_X9_acted_12 1000 s v1 v2 v3 0 = _ from (congrArg (fun z => f_X9_acted_12 1000 z v1 v2 v3 0) (ma3_id (s := s))).trans a1]
    exact ⟨g, h, w, 9, 1, rfl, by omega, rfl, fun j hj => ⟨by rw [a2 j hj, if_pos (by omega)], by rw [a3 j hj, if_pos (by omega)], by rw [a4 j hj, if_pos (by omega)]⟩, a5, a6, a7, by omega⟩
  · have e1 : mi (maU s 60 k v1) 11 = nI k := e
    have e2 : mi (maU (maU s 60 k v1) 61 k v2) 11 = nI k := e
    have e3 : mi (maU (maU (maU s 60 k v1) 61 k v2) 62 k v3) 11 = nI k := e
    rw [if_neg (fun z => q (nI_inj (by omega) (by omega) z)), ixr_n (by omega) (by omega), nI_clamp (by omega), e1, ixr_n (by omega) (by omega), nI_clamp (by omega), e2, ixr_n (by omega) (by omega), nI_clamp (by omega), e3, nI_1]
    refine ⟨upd (ma s 60) k v1, upd (ma s 61) k v2, upd (ma s 62) k v3, k, 0, rfl, by omega, ?_, fun j hj => ⟨upd_ne (by omega), upd_ne (by omega), upd_ne (by omega)⟩, upd_eq, upd_eq, upd_eq, by omega⟩
    have e4 : maU (maU (maU s 60 k v1) 61 k v2) 62 k v3 = ma3 s (upd (ma s 60) k v1) (upd (ma s 61) k v2) (upd (ma s 62) k v3) :=
      (congrArg (fun z => maU (maU (maU z 60 k v1) 61 k v2) 62 k v3) (ma3_id (s := s))).trans (by rw [ma3_60, ma3_61, ma3_62])
    rw [e4]

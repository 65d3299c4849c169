/-! ===== the relation ===== -/
def RTp (cs : CS) (ms : MS) : Prop := ∃ n : Nat, n ≤ 100 ∧ ci cs 6 = nI n ∧ mi ms 2 = nI n ∧ ∀ i, i < n → ∃ b : Nat, b < 256 ∧ ma ms 30 i = nI b ∧ ca cs 15 i &&& 255 = nI b ∧ vp_nar .byte (ca cs 15 i) = ca cs 15 i
/-- the depth of a fit's pile behind its steps, from d on -/
def dep : Nat → List (Nat × Nat × Nat) → Option Nat
  | d, [] => some d
  | d, q :: st => if q.1 ≤ 2 then (if d < 44 then dep (d + 1) st else none) else if q.1 = 3 then (if 1 ≤ d then dep d st else none) else (if 2 ≤ d then dep (d - 1) st else none)
def RFt (cs : CS) (ms : MS) : Prop := ∃ m : Nat, m ≤ 30 ∧ ci cs 5 = nI m ∧ mi ms 3 = nI m ∧ ∀ f, f < m → ∃ st : List (Nat × Nat × Nat), st.length ≤ 100 ∧ dep 0 st = some 1 ∧ ca cs 17 f = nI st.length ∧ ma ms 31 f = nI st.length ∧ ∀ (i : Nat) (q : Nat × Nat × Nat), st[i]? = some q → q.1 ≤ 5 ∧ q.2.1 < 16384 ∧ q.2.2 < 16384 ∧ ca cs 16 (100 * f + i) = nI (q.1 * 268435456 + q.2.1 * 16384 + q.2.2) ∧ ma ms 32 (100 * f + i) = nI q.1 ∧ ma ms 33 (100 * f + i) = nI q.2.1 ∧ ma ms 34 (100 * f + i) = nI q.2.2
/-- what a part's numbers can be, p of its model, at z of the reference's rows -/
def PRng (ms : MS) (z p : Nat) : Prop := (∃ k, k ≤ 5 ∧ ma ms 38 z = nI k) ∧ (∃ k, k ≤ 99 ∧ ma ms 39 z = nI k) ∧ (ma ms 40 z = -1 ∨ ∃ k, k < p ∧ ma ms 40 z = nI k) ∧ (∃ k, 1 ≤ k ∧ k ≤ 240 ∧ ma ms 41 z = nI k) ∧ (∃ k, 1 ≤ k ∧ k ≤ 200000 ∧ ma ms 42 z = nI k) ∧ (∃ k, k < 4 ∧ ma ms 43 z = nI k) ∧ (∃ k, k ≤ 100000 ∧ ma ms 44 z = nI k) ∧ (ma ms 45 z = -1 ∨ ∃ k, k < 30 ∧ ma ms 45 z = nI k ∧ nI k < mi ms 3)
/-- a part's eight facts, at z of the reference's rows -/
def FEq (cs : CS) (ms : MS) (z : Nat) : Prop := ca cs 21 (8 * z) = ma ms 38 z ∧ ca cs 21 (8 * z + 1) = ma ms 39 z ∧ ca cs 21 (8 * z + 2) = ma ms 40 z ∧ ca cs 21 (8 * z + 3) = ma ms 41 z ∧ ca cs 21 (8 * z + 4) = ma ms 42 z ∧ ca cs 21 (8 * z + 5) = ma ms 43 z ∧ ca cs 21 (8 * z + 6) = ma ms 44 z ∧ ca cs 21 (8 * z + 7) = ma ms 45 z
def RMd (cs : CS) (ms : MS) : Prop := ∀ m, m < 8 → ∃ n : Nat, n ≤ 24 ∧ ca cs 20 m = nI n ∧ ma ms 37 m = nI n ∧ ∀ p, p < n → PRng ms (24 * m + p) p ∧ FEq cs ms (24 * m + p)
def zb (x : Int32) : Prop := x = 0 ∨ x = 1
def CarAt (cs : CS) (ms : MS) (c a : Nat) : Prop := cg cs 8 c = some a ∧ a ∈ cl cs ∧ ck cs a = 0 ∧ cp cs a 0 = ma ms 46 c ∧ cp cs a 1 = ma ms 47 c ∧ cp cs a 2 = ma ms 48 c ∧ cp cs a 3 = ma ms 49 c ∧ cp cs a 4 = ma ms 51 c ∧ cp cs a 5 = ma ms 50 c ∧ cp cs a 6 = ma ms 52 c ∧ cp cs a 7 = ma ms 53 c ∧ cp cs a 8 = ma ms 54 c
def CRng (ms : MS) (c : Nat) : Prop := zb (ma ms 52 c) ∧ zb (ma ms 53 c) ∧ (ma ms 54 c = 0 ∨ (ma ms 54 c = 1 ∧ ma ms 50 c = 0)) ∧ ∃ m k k' o : Nat, m < 8 ∧ ma ms 46 c = nI m ∧ 0 < k ∧ k ≤ k' ∧ k' ≤ 24 ∧ ma ms 49 c = nI k ∧ ma ms 37 m = nI k' ∧ o < 2 ^ k ∧ ma ms 50 c = nI o
def RCr (cs : CS) (ms : MS) : Prop := ∃ n : Nat, n ≤ 40 ∧ ci cs 0 = nI n ∧ mi ms 9 = nI n ∧ (∀ c, c < n → CRng ms c ∧ ∃ a, CarAt cs ms c a) ∧ ∀ c c' a, c < n → c' < n → cg cs 8 c = some a → cg cs 8 c' = some a → c = c'
/-- how many of the first n are 0 -/
def cnt0 (f : Nat → Int32) : Nat → Nat
  | 0 => 0
  | n + 1 => cnt0 f n + if f n = 0 then 1 else 0
def ItemAt (cs : CS) (ms : MS) (i a : Nat) : Prop := cg cs 9 i = some a ∧ a ∈ cl cs ∧ ck cs a = 1 ∧ cp cs a 0 = ma ms 63 i ∧ cp cs a 2 = ma ms 64 i ∧ cp cs a 3 = ma ms 65 i ∧ cp cs a 4 = ma ms 66 i ∧ (ma ms 65 i = 1 → cp cs a 5 = ma ms 67 i) ∧ ∀ c, ma ms 63 i = nI c → c < 40 → cp cs a 1 = ma ms 46 c
def IRng (ms : MS) (i : Nat) : Prop := (∃ w, w ≤ 3 ∧ ma ms 65 i = nI w) ∧ ∃ c p : Nat, c < 40 ∧ ma ms 63 i = nI c ∧ nI c < mi ms 9 ∧ p < 24 ∧ ma ms 64 i = nI p ∧ nI p < ma ms 49 c
def RIt (cs : CS) (ms : MS) : Prop := ∃ n : Nat, n ≤ 400 ∧ ci cs 1 = nI n ∧ mi ms 12 = nI n ∧ (∀ i, i < n → IRng ms i ∧ ∃ a, ItemAt cs ms i a) ∧ (∀ i i' a, i < n → i' < n → cg cs 9 i = some a → cg cs 9 i' = some a → i = i') ∧ cnt0 (ma ms 65) n ≤ 60 ∧ ci cs 2 = nI (cnt0 (ma ms 65) n) ∧ mi ms 13 = nI (cnt0 (ma ms 65) n)
def RWt (cs : CS) (ms : MS) : Prop := ∀ s, s < 4 → ca cs 10 (6 * s) = (mb ms 55 s).toInt32 ∧ ca cs 10 (6 * s + 1) = (mb ms 55 s - mb ms 58 s - mb ms 56 s - mb ms 57 s - mb ms 59 s).toInt32 ∧ ca cs 10 (6 * s + 2) = (mb ms 58 s).toInt32 ∧ ca cs 10 (6 * s + 3) = (mb ms 56 s).toInt32 ∧ ca cs 10 (6 * s + 4) = (mb ms 57 s).toInt32 ∧ ca cs 10 (6 * s + 5) = (mb ms 59 s).toInt32
def ActAt (cs : CS) (ms : MS) (j : Nat) : Prop := ca cs 22 j = ma ms 60 j ∧ (((ma ms 60 j = 1 ∨ ma ms 60 j = 2) ∧ ca cs 23 j = ma ms 61 j ∧ ∃ c, c < 40 ∧ ma ms 61 j = nI c ∧ nI c < mi ms 9) ∨ (ma ms 60 j = 3 ∧ ca cs 23 j = ma ms 62 j ∧ ∃ i, i < 400 ∧ ma ms 62 j = nI i ∧ nI i < mi ms 12 ∧ ma ms 61 j = ma ms 63 i ∧ ma ms 65 i = 0 ∧ ∃ c, c < 40 ∧ ma ms 63 i = nI c ∧ ma ms 54 c = 0))
def RAc (cs : CS) (ms : MS) : Prop := ∃ k : Nat, k ≤ 10 ∧ ci cs 11 = nI k ∧ mi ms 11 = nI k ∧ (∀ j, j < k → ActAt cs ms j) ∧ ∀ j j', j < k → j' < k → ma ms 60 j = 3 → ma ms 60 j' = 3 → ma ms 62 j = ma ms 62 j' → j = j'
def RFd (cs : CS) (ms : MS) : Prop := ∃ k : Nat, k ≤ 60 ∧ ci cs 12 = nI k ∧ mi ms 14 = nI k ∧ ∀ j, j < k → ca cs 24 j = ma ms 68 j
def RDy (cs : CS) (ms : MS) : Prop := ∃ d : Nat, d ≤ 1000000 ∧ ci cs 3 = nI d ∧ mi ms 10 = nI d
def RTl (cs : CS) (ms : MS) : Prop := cj cs 0 = mj ms 0
def RR (cs : CS) (ms : MS) : Prop := RSh cs ms ∧ RTp cs ms ∧ RFt cs ms ∧ RMd cs ms ∧ RCr cs ms ∧ RIt cs ms ∧ RWt cs ms ∧ RAc cs ms ∧ RFd cs ms ∧ RDy cs ms ∧ RTl cs ms
/-! ===== the start ===== -/
theorem RR_start {g g' : Nat → Int32} (h : ∀ j, j < 128 → g j = -1) (h' : ∀ j, j < 128 → g' j = -1) : RR (cs0 g) (ms0 g') := by
  refine ⟨⟨0, by omega, rfl, rfl, fun i hi => absurd hi (by omega), fun r hr => ⟨(h r hr).trans (h' r hr).symm, Or.inl (h r hr)⟩, fun r i k hr hi hk e => absurd (e.symm.trans (h r hr)) (nI_ne_neg (by omega))⟩, ⟨0, by omega, rfl, rfl, fun i hi => absurd hi (by omega)⟩, ⟨0, by omega, rfl, rfl, fun i hi => absurd hi (by omega)⟩, fun m hm => ⟨0, by omega, rfl, rfl, fun i hi => absurd hi (by omega)⟩, ⟨0, by omega, rfl, rfl, fun i hi => absurd hi (by omega), fun c c' a hc => absurd hc (by omega)⟩, ⟨0, by omega, rfl, rfl, fun i hi => absurd hi (by omega), fun c c' a hc => absurd hc (by omega), Nat.zero_le _, rfl, rfl⟩, fun s hs => ⟨rfl, by show (0 : Int32) = ((0 - 0 - 0 - 0 - 0 : Int64)).toInt32; decide, rfl, rfl, rfl, rfl⟩, ⟨0, by omega, rfl, rfl, fun i hi => absurd hi (by omega), fun c c' hc => absurd hc (by omega)⟩, ⟨0, by omega, rfl, rfl, fun i hi => absurd hi (by omega)⟩, ⟨0, by omega, rfl, rfl⟩, rfl⟩
theorem agr_r {cd : String → Int32} {ex : List String} {R : CS → MS → Prop} {rb : Int32} {ms' : MS} {E : String} {cs' : CS} (h1 : mi ms' 0 = cd E) (h2 : E ∈ ex) (h3 : R cs' ms') : Agr cd ex R rb ms' (.inr E) cs' :=
  ⟨h1, fun v hv => (by cases hv), fun E' hE => (by cases hE; exact h2), h3⟩
theorem agr_l {cd : String → Int32} {ex : List String} {R : CS → MS → Prop} {rb : Int32} {ms' : MS} {cs' : CS} (h1 : mi ms' 0 = 0) (h3 : R cs' ms') : Agr cd ex R rb ms' (.inl rb) cs' :=
  ⟨h1, fun v hv => (by cases hv; rfl), fun E' hE => (by cases hE), h3⟩
theorem one_ne : ¬ (1 : Int32) = 0 := by decide
/-! ===== the reference's 'may' ===== -/
theorem may_0 {ms : MS} {t c : Int32} (hc : c ≠ 0) : f_X9_may (miU ms 0 0) 0 c = some (0, miU ms 0 c) := by
  unfold f_X9_may
  rw [if_pos rfl, if_pos (show mi (miU ms 0 0) 0 = 0 from rfl), if_neg (show ¬ mi (miU (miU ms 0 0) 0 c) 0 = 0 from hc)]
  show some (0, (va_up (va_up ms.1 0 0) 0 c, ms.2)) = _
  rw [va_up_up]
  rfl
theorem may_1 {ms : MS} {c : Int32} : f_X9_may (miU ms 0 0) 1 c = some (1, miU ms 0 0) := by
  unfold f_X9_may
  rw [if_neg (by decide), if_pos (show mi (miU ms 0 0) 0 = 0 from rfl)]
/-- a sheet's row, or none -/
theorem slot_cases {cs : CS} {ms : MS} {n : Nat} {v1 v2 : Int32} (hn : n ≤ 8) (h1 : ci cs 4 = nI n) (h2 : mi ms 1 = nI n) : (∃ s k : Nat, s < n ∧ k < 16 ∧ v1 = nI s ∧ v2 = nI k ∧ f_X8_slotOf cs v1 v2 = some (.inl (nI (16 * s + k)), cs) ∧ ∀ c : Int32, f_X9_isRow (miU ms 0 0) v1 v2 c = some (1, miU ms 0 0)) ∨ (f_X8_slotOf cs v1 v2 = some (.inr "java/lang/IndexOutOfBoundsException", cs) ∧ ∀ c : Int32, c ≠ 0 → f_X9_isRow (miU ms 0 0) v1 v2 c = some (0, miU ms 0 c)) := by
  have h2' : mi (miU ms 0 0) 1 = nI n := h2
  unfold f_X8_slotOf f_X7_slotAt f_X9_isRow
  rw [h1, h2', l16]
  by_cases q1 : v1 < 0
  · exact Or.inr ⟨by rw [if_pos q1]; rfl, fun c hc => by rw [if_pos q1, may_0 (t := 0) hc, b2_some, gd_t (Or.inl rfl)]⟩
  obtain ⟨s, hs, rfl⟩ := nI_of q1
  by_cases q2 : nI n ≤ nI s
  · exact Or.inr ⟨by rw [if_neg q1, if_pos q2]; rfl, fun c hc => by rw [if_neg q1, if_pos q2, may_0 (t := 0) hc, b2_some, gd_t (Or.inl rfl)]⟩
  by_cases q3 : v2 < 0
  · exact Or.inr ⟨by rw [if_neg q1, if_neg q2, if_pos q3]; rfl, fun c hc => by rw [if_neg q1, if_neg q2, if_pos q3, may_0 (t := 0) hc, b2_some, gd_t (Or.inl rfl)]⟩
  obtain ⟨k, hk, rfl⟩ := nI_of q3
  by_cases q4 : nI 16 ≤ nI k
  · exact Or.inr ⟨by rw [if_neg q1, if_neg q2, if_neg q3, if_pos q4]; rfl, fun c hc => by rw [if_neg q1, if_neg q2, if_neg q3, if_pos q4, may_0 (t := 0) hc, b2_some, gd_t (Or.inl rfl)]⟩
  have hsn : s < n := Nat.lt_of_not_le fun z => q2 (nI_le z hs)
  have hk16 : k < 16 := Nat.lt_of_not_le fun z => q4 (nI_le z hk)
  refine Or.inl ⟨s, k, hsn, hk16, rfl, rfl, ?_, fun c => ?_⟩
  · rw [if_neg q1, if_neg q2, if_neg q3, if_neg q4, some_bind, nI_mul, nI_add, if_neg (nI_ne_neg (by omega)), Nat.mul_comm s 16]
  · rw [if_neg q1, if_neg q2, if_neg q3, if_neg q4, may_1, b2_some, gd_t (Or.inr rfl)]
/-! ===== sheet, row, put, tear ===== -/
theorem P_sheet : H_sheet RR := by
  rintro cs ms v1 ⟨⟨n, hn, h1, h2, hw, hr, hv⟩, hX⟩
  have h2' : mi (miU ms 0 0) 1 = nI n := h2
  unfold f_X9_sheet f_X9_sheet_19 f_X9_sheet_20 f_X9_sheet_42 f_X8_sheet f_X7_isWidth
  by_cases q : v1 < 0 ∨ 2 < v1
  · refine ⟨0, miU ms 0 1, ?_, .inr "java/lang/IllegalArgumentException", cs, ?_, agr_r rfl (by simp) ⟨⟨n, hn, h1, h2, hw, hr, hv⟩, hX⟩⟩
    · rcases q with q | q
      · rw [if_pos q, may_0 (t := 0) (by decide), b2_some, if_pos rfl]
      · by_cases q0 : v1 < 0
        · rw [if_pos q0, may_0 (t := 0) (by decide), b2_some, if_pos rfl]
        · rw [if_neg q0, if_pos q, may_0 (t := 0) (by decide), b2_some, if_pos rfl]
    · rcases q with q | q
      · rw [if_pos q]; rfl
      · by_cases q0 : v1 < 0
        · rw [if_pos q0]; rfl
        · rw [if_neg q0, if_pos q]; rfl
  · have q1 : ¬ v1 < 0 := fun z => q (Or.inl z)
    have q2 : ¬ 2 < v1 := fun z => q (Or.inr z)
    unfold f_X7_open
    rw [if_neg q1, if_neg q2, may_1, b2_some, if_neg one_ne, h2', if_neg q1, if_neg q2, some_bind, if_neg one_ne, h1, l8, if_neg (nI_pos (by omega))]
    by_cases q3 : n < 8
    · rw [if_neg (nI_ge (by omega) (by omega)), may_1, b2_some, if_neg one_ne, h2', ixr_n (by omega) (by omega), if_pos (nI_lt (by omega) (by omega)), ixr_n (by omega) (by omega), nI_clamp (by omega)]
      refine ⟨nI n, _, congrArg some (Prod.ext (show mi ms 1 + 1 - 1 = nI n by rw [h2, Int32.add_sub_cancel]) rfl), .inl (nI n), ciU (caU cs 12 n v1) 4 (nI (n + 1)), ?_, agr_l rfl ⟨⟨n + 1, by omega, rfl, ?_, fun i hi => ?_, hr, hv⟩, hX⟩⟩
      · show b2 (some (ci cs 4 + 1 - 1, ciU (caU cs 12 n v1) 4 (ci cs 4 + 1))) _ = _
        rw [b2_some, h1, nI_1, show nI (n + 1) - 1 = nI n by rw [← nI_1, Int32.add_sub_cancel], if_neg (nI_ne_neg (by omega))]
      · show mi ms 1 + 1 = nI (n + 1)
        rw [h2, nI_1]
      · show upd (ca cs 12) n v1 i = upd (ma ms 27) n v1 i
        by_cases hin : i = n
        · rw [hin, upd_eq, upd_eq]
        · rw [upd_ne hin, upd_ne hin]; exact hw i (by omega)
    · have e : n = 8 := by omega
      subst e
      rw [if_pos (nI_le (by omega) (by omega)), may_0 (t := 0) (by decide), b2_some, if_pos rfl, if_neg (nI_nlt (by omega) (by omega))]
      exact ⟨0, miU ms 0 2, rfl, .inr "java/lang/IllegalStateException", cs, rfl, agr_r rfl (by simp) ⟨⟨8, hn, h1, h2, hw, hr, hv⟩, hX⟩⟩

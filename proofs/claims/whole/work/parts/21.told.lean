/-! ===== told, late, grams ===== -/
theorem ob_some {α β : Type} {a : α} {n : β} {f : α → β} : ob (some a) n f = f a := rfl
theorem l24 : (24 : Int32) = nI 24 := rfl
theorem l40 : (40 : Int32) = nI 40 := rfl
theorem l6 : (6 : Int32) = nI 6 := rfl
theorem l4 : (4 : Int32) = nI 4 := rfl
theorem parts_n {cs : CS} {m : Nat} (hm : m < 8) : f_X6_partsOf cs (nI m) = some (ca cs 20 m) := by
  unfold f_X6_partsOf
  rw [l8, if_neg (nI_pos (by omega)), if_neg (nI_ge (by omega) (by omega)), ldI_n hm (by omega)]
  rfl
theorem parts_out {cs : CS} {v : Int32} (h : v < 0 ∨ 8 ≤ v) : f_X6_partsOf cs v = some 0 := by
  unfold f_X6_partsOf
  by_cases q : v < 0
  · rw [if_pos q]
  · rw [if_neg q, if_pos (h.resolve_left q)]
theorem fact_n {cs : CS} {m p w n : Nat} (hm : m < 8) (hn : n ≤ 24) (e : ca cs 20 m = nI n) (hp : p < n) (hw : w < 8) : f_X6_factOf cs (nI m) (nI p) (nI w) = some (ca cs 21 (8 * (24 * m + p) + w)) := by
  unfold f_X6_factOf f_X6_placeOf f_X6_placeOf_28
  rw [if_neg (nI_pos (by omega)), parts_n hm, some_bind, e, if_neg (nI_ge (by omega) (by omega)), if_neg (nI_pos (by omega)), l8, if_neg (nI_ge (by omega) (by omega)), if_neg one_ne, l24, nI_mul, nI_add, nI_mul, nI_add, l1536, if_neg (nI_pos (by omega)), if_neg (nI_ge (by omega) (by omega)), some_bind, if_neg (nI_ne_neg (by omega)), ldI_n (by omega) (by omega), some_bind]
  rw [show (m * 24 + p) * 8 + w = 8 * (24 * m + p) + w by omega]
theorem fact_neg {cs : CS} {v w : Int32} : f_X6_factOf cs v (-1) w = some (-1) := by
  unfold f_X6_factOf f_X6_placeOf f_X6_placeOf_27 f_X6_placeOf_28
  rw [if_pos (by decide), if_pos rfl]
  rfl
/-- the eight facts as the class reads them -/
theorem fact_at {cs : CS} {ms : MS} (h : RMd cs ms) {m p n : Nat} (hm : m < 8) (hn : n ≤ 24) (e : ma ms 37 m = nI n) (hp : p < n) : f_X6_factOf cs (nI m) (nI p) 0 = some (ma ms 38 (24 * m + p)) ∧ f_X6_factOf cs (nI m) (nI p) 1 = some (ma ms 39 (24 * m + p)) ∧ f_X6_factOf cs (nI m) (nI p) 2 = some (ma ms 40 (24 * m + p)) ∧ f_X6_factOf cs (nI m) (nI p) 3 = some (ma ms 41 (24 * m + p)) ∧ f_X6_factOf cs (nI m) (nI p) 4 = some (ma ms 42 (24 * m + p)) ∧ f_X6_factOf cs (nI m) (nI p) 5 = some (ma ms 43 (24 * m + p)) ∧ f_X6_factOf cs (nI m) (nI p) 6 = some (ma ms 44 (24 * m + p)) ∧ f_X6_factOf cs (nI m) (nI p) 7 = some (ma ms 45 (24 * m + p)) ∧ PRng ms (24 * m + p) p := by
  obtain ⟨n', hn', e1, e2, hf⟩ := h m hm
  obtain rfl : n = n' := nI_inj (by omega) (by omega) (e.symm.trans e2)
  obtain ⟨hr, f0, f1, f2, f3, f4, f5, f6, f7⟩ := hf p hp
  exact ⟨(fact_n (w := 0) hm hn e1 hp (by omega)).trans (congrArg some f0), (fact_n (w := 1) hm hn e1 hp (by omega)).trans (congrArg some f1), (fact_n (w := 2) hm hn e1 hp (by omega)).trans (congrArg some f2), (fact_n (w := 3) hm hn e1 hp (by omega)).trans (congrArg some f3), (fact_n (w := 4) hm hn e1 hp (by omega)).trans (congrArg some f4), (fact_n (w := 5) hm hn e1 hp (by omega)).trans (congrArg some f5), (fact_n (w := 6) hm hn e1 hp (by omega)).trans (congrArg some f6), (fact_n (w := 7) hm hn e1 hp (by omega)).trans (congrArg some f7), hr⟩
theorem P_told : H_told RR := by
  rintro cs ms v1 v2 v3 hR
  have hX0 : RR cs (miU ms 0 0) := hR
  have hX1 : RR cs (miU ms 0 1) := hR
  have hX2 : RR cs (miU ms 0 2) := hR
  obtain ⟨-, -, -, hMd, -⟩ := hR
  unfold f_X8_told f_X9_told f_X9_told_24 f_X9_told_25
  by_cases q2 : v2 < 0
  · refine ⟨0, miU ms 0 1, ?_, .inr "java/util/NoSuchElementException", cs, if_pos q2, agr_r rfl (by simp) hX1⟩
    by_cases a : v1 < 0
    · rw [if_pos a, may_0 (t := 0) (by decide), b2_some, if_pos rfl]
    · by_cases b : 8 ≤ v1
      · rw [if_neg a, if_pos b, may_0 (t := 0) (by decide), b2_some, if_pos rfl]
      · rw [if_neg a, if_neg b, if_pos q2, may_0 (t := 0) (by decide), b2_some, if_pos rfl]
  by_cases q1 : v1 < 0 ∨ 8 ≤ v1
  · refine ⟨0, miU ms 0 1, ?_, .inr "java/util/NoSuchElementException", cs, by rw [if_neg q2, parts_out q1, some_bind, if_neg q2], agr_r rfl (by simp) hX1⟩
    by_cases a : v1 < 0
    · rw [if_pos a, may_0 (t := 0) (by decide), b2_some, if_pos rfl]
    · rw [if_neg a, if_pos (q1.resolve_left a), may_0 (t := 0) (by decide), b2_some, if_pos rfl]
  have a1 : ¬ v1 < 0 := fun z => q1 (Or.inl z)
  have a2 : ¬ 8 ≤ v1 := fun z => q1 (Or.inr z)
  obtain ⟨m, hm, rfl⟩ := nI_of a1
  have hm8 : m < 8 := Nat.lt_of_not_le fun z => a2 (nI_le (a := 8) z hm)
  obtain ⟨p, hp, rfl⟩ := nI_of q2
  obtain ⟨n, hn, e1, e2, -⟩ := id (hMd m hm8)
  rw [if_neg a1, if_neg a2, if_neg q2, if_neg q2, may_1, b2_some, if_neg one_ne, ldI_n hm8 hm, some_bind, parts_n hm8, some_bind, e1, show ma (miU ms 0 0) 37 m = nI n from e2]
  unfold f_X9_told_48
  by_cases q3 : n ≤ p
  · rw [if_pos (nI_le q3 hp), if_neg (nI_nlt q3 hp), may_0 (t := 0) (by decide), b2_some, if_pos rfl]
    exact ⟨_, _, rfl, _, _, rfl, agr_r rfl (by simp) hX1⟩
  have hpn : p < n := by omega
  rw [if_neg (nI_ge hpn (by omega)), if_pos (nI_lt hpn (by omega)), may_1, b2_some, if_neg one_ne]
  unfold f_X9_told_70 f_X9_told_71
  obtain ⟨f0, f1, f2, f3, f4, f5, f6, f7, -⟩ := fact_at hMd hm8 hn e2 hpn
  by_cases q4 : v3 < 0
  · rw [if_pos q4, if_pos q4, may_0 (t := 0) (by decide), b2_some, if_pos rfl]
    exact ⟨_, _, rfl, _, _, rfl, agr_r rfl (by simp) hX2⟩
  obtain ⟨w, hw, rfl⟩ := nI_of q4
  by_cases q5 : w < 8
  · rw [if_neg q4, if_neg (show ¬ (7 : Int32) < nI w from nI_nlt (a := 7) (by omega) (by omega)), if_neg q4, if_pos (show nI w < (8 : Int32) from nI_lt (b := 8) q5 (by omega)), may_1, b2_some, if_neg one_ne, l24, nI_mul, nI_add]
    have hz : 24 * m + p < 192 := by omega
    rcases (show w = 0 ∨ w = 1 ∨ w = 2 ∨ w = 3 ∨ w = 4 ∨ w = 5 ∨ w = 6 ∨ w = 7 by omega) with rfl | rfl | rfl | rfl | rfl | rfl | rfl | rfl
    · rw [if_pos (by decide), ldI_n hz (by omega), show f_X6_factOf cs (nI m) (nI p) (nI 0) = _ from f0]
      exact ⟨_, _, rfl, _, _, rfl, agr_l rfl hX0⟩
    · rw [if_neg (by decide), if_pos (by decide), ldI_n hz (by omega), show f_X6_factOf cs (nI m) (nI p) (nI 1) = _ from f1]
      exact ⟨_, _, rfl, _, _, rfl, agr_l rfl hX0⟩
    · rw [if_neg (by decide), if_neg (by decide), if_pos (by decide), ldI_n hz (by omega), show f_X6_factOf cs (nI m) (nI p) (nI 2) = _ from f2]
      exact ⟨_, _, rfl, _, _, rfl, agr_l rfl hX0⟩
    · rw [if_neg (by decide), if_neg (by decide), if_neg (by decide), if_pos (by decide), ldI_n hz (by omega), show f_X6_factOf cs (nI m) (nI p) (nI 3) = _ from f3]
      exact ⟨_, _, rfl, _, _, rfl, agr_l rfl hX0⟩
    · rw [if_neg (by decide), if_neg (by decide), if_neg (by decide), if_neg (by decide), if_pos (by decide), ldI_n hz (by omega), show f_X6_factOf cs (nI m) (nI p) (nI 4) = _ from f4]
      exact ⟨_, _, rfl, _, _, rfl, agr_l rfl hX0⟩
    · rw [if_neg (by decide), if_neg (by decide), if_neg (by decide), if_neg (by decide), if_neg (by decide), if_pos (by decide), ldI_n hz (by omega), show f_X6_factOf cs (nI m) (nI p) (nI 5) = _ from f5]
      exact ⟨_, _, rfl, _, _, rfl, agr_l rfl hX0⟩
    · rw [if_neg (by decide), if_neg (by decide), if_neg (by decide), if_neg (by decide), if_neg (by decide), if_neg (by decide), if_pos (by decide), ldI_n hz (by omega), show f_X6_factOf cs (nI m) (nI p) (nI 6) = _ from f6]
      exact ⟨_, _, rfl, _, _, rfl, agr_l rfl hX0⟩
    · rw [if_neg (by decide), if_neg (by decide), if_neg (by decide), if_neg (by decide), if_neg (by decide), if_neg (by decide), if_neg (by decide), ldI_n hz (by omega), show f_X6_factOf cs (nI m) (nI p) (nI 7) = _ from f7]
      exact ⟨_, _, rfl, _, _, rfl, agr_l rfl hX0⟩
  · rw [if_neg q4, if_pos (show (7 : Int32) < nI w from nI_lt (a := 7) (by omega) (by omega)), if_neg q4, if_neg (show ¬ nI w < (8 : Int32) from nI_nlt (b := 8) (by omega) (by omega)), may_0 (t := 0) (by decide), b2_some, if_pos rfl]
    exact ⟨_, _, rfl, _, _, rfl, agr_r rfl (by simp) hX2⟩
theorem carAt_n {cs : CS} {ms : MS} {n : Nat} (hn : n ≤ 40) (h1 : ci cs 0 = nI n) {c a : Nat} (hc : c < n) (ha : CarAt cs ms c a) : f_X8_carAt cs (nI c) = some (some a) := by
  unfold f_X8_carAt
  rw [h1, if_neg (nI_pos (by omega)), if_neg (nI_ge (by omega) (by omega)), l40, if_neg (nI_ge (by omega) (by omega)), ldQ_n (by omega) (by omega), some_bind, ha.1]
  rfl
theorem late_loop {cs : CS} {ms : MS} {v1 v2 : Int32} {n : Nat} (hn : n ≤ 40) (h1 : ci cs 0 = nI n) (h2 : mi ms 9 = nI n) (hd : ci cs 3 = mi ms 10) (h3 : ∀ c, c < n → ∃ a, CarAt cs ms c a) : ∀ (f i : Nat) (v3 : Int32), i ≤ n → n + 1 ≤ i + f → ∃ r, f_X8_late_24 f cs v1 v2 v3 (nI i) = some (.inl r, cs) ∧ f_X9_late_34 f ms v1 v2 v3 (nI i) = some (r, ms) := by
  intro f
  induction f with
  | zero => intro i v3 a b; omega
  | succ f ih =>
    intro i v3 a b
    rw [f_X8_late_24, f_X9_late_34, h1, h2]
    by_cases q : n ≤ i
    · rw [if_pos (nI_le q (by omega)), if_pos (nI_le q (by omega))]
      exact ⟨_, rfl, rfl⟩
    obtain ⟨x, hx⟩ := h3 i (by omega)
    rw [if_neg (nI_ge (by omega) (by omega)), if_neg (nI_ge (by omega) (by omega))]
    have hi40 : i < 40 := by omega
    have hi31 : i < 2 ^ 31 := by omega
    simp only [carAt_n hn h1 (show i < n by omega) hx, some_bind, ob_some, ldI_n hi40 hi31, nI_1, Int32.add_zero]
    obtain ⟨-, x2, x3, -, -, -, -, y4, -, y6, -, y8⟩ := hx
    obtain ⟨r0, s1, s2⟩ := ih (i + 1) v3 (by omega) (by omega)
    obtain ⟨r1, t1, t2⟩ := ih (i + 1) (v3 + 1) (by omega) (by omega)
    have el : f_X8_isLate cs (some x) v1 = if v1 = 0 then (if ma ms 52 i = 0 then (if mi ms 10 - ma ms 51 i < 5 then some 0 else some 1) else some 0) else (if ma ms 54 i = 0 then (if mi ms 10 - ma ms 51 i < 90 then some 0 else some 1) else some 0) := by
      unfold f_X8_isLate
      show gd _ _ = _
      rw [gd_t ⟨x2, x3⟩, y4, y6, y8, hd]
    rw [el]
    by_cases c0 : v1 = 0
    · rw [if_pos c0, if_pos c0]
      by_cases c1 : ma ms 52 i = 0
      · rw [if_pos c1, if_pos c1]
        by_cases c2 : mi ms 10 - ma ms 51 i < 5
        · rw [if_pos c2, if_pos c2, some_bind, if_pos rfl]
          exact ⟨r0, s1, s2⟩
        · rw [if_neg c2, if_neg c2, some_bind, if_neg one_ne]
          by_cases c3 : v3 = v2
          · rw [if_pos c3, if_pos c3]; exact ⟨_, rfl, rfl⟩
          · rw [if_neg c3, if_neg c3]; exact ⟨r1, t1, t2⟩
      · rw [if_neg c1, if_neg c1, some_bind, if_pos rfl]
        exact ⟨r0, s1, s2⟩
    · rw [if_neg c0, if_neg c0]
      by_cases c1 : ma ms 54 i = 0
      · rw [if_pos c1, if_pos c1]
        by_cases c2 : mi ms 10 - ma ms 51 i < 90
        · rw [if_pos c2, if_pos c2, some_bind, if_pos rfl]
          exact ⟨r0, s1, s2⟩
        · rw [if_neg c2, if_neg c2, some_bind, if_neg one_ne]
          by_cases c3 : v3 = v2
          · rw [if_pos c3, if_pos c3]; exact ⟨_, rfl, rfl⟩
          · rw [if_neg c3, if_neg c3]; exact ⟨r1, t1, t2⟩
      · rw [if_neg c1, if_neg c1, some_bind, if_pos rfl]
        exact ⟨r0, s1, s2⟩
theorem P_late : H_late RR := by
  rintro cs ms v1 v2 hR
  have hX0 : RR cs (miU ms 0 0) := hR
  have hX1 : RR cs (miU ms 0 1) := hR
  obtain ⟨-, -, -, -, ⟨n, hn, h1, h2, h3, -⟩, -, -, -, -, ⟨d, hd, d1, d2⟩, -⟩ := hR
  obtain ⟨r, e1, e2⟩ := late_loop (cs := cs) (ms := miU ms 0 0) (v1 := v1) (v2 := v2) hn h1 h2 (d1.trans d2.symm) (fun c hc => (h3 c hc).2) 1000 0 0 (by omega) (by omega)
  unfold f_X8_late f_X9_late
  by_cases q0 : v1 = 0
  · rw [if_pos q0, if_pos q0, may_1, b2_some, if_neg one_ne]
    exact ⟨_, _, e2, _, _, e1, agr_l rfl hX0⟩
  rw [if_neg q0, if_neg q0]
  by_cases q1 : v1 = 1
  · rw [if_pos q1, if_pos q1, may_1, b2_some, if_neg one_ne]
    exact ⟨_, _, e2, _, _, e1, agr_l rfl hX0⟩
  rw [if_neg q1, if_neg q1, may_0 (t := 0) (by decide), b2_some, if_pos rfl]
  exact ⟨_, _, rfl, _, _, rfl, agr_r rfl (by simp) hX1⟩

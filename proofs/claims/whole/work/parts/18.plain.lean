/-! ===== count, till, found, day, about, grams ===== -/
theorem P_count : H_count RR := by
  rintro cs ms v1 hR
  have hX : RR cs (miU ms 0 0) := hR
  obtain ⟨⟨n, hn, a4, b1, -⟩, ⟨t, ht, a6, bt, -⟩, ⟨f, hf, a5, b3, -⟩, -, ⟨c, hc, a0, b9, -⟩, ⟨i, hi, a1, b12, -, -, -, a2, b13⟩, -, ⟨k, hk, a11, b11, -⟩, -, ⟨d, hd, a3, b10⟩, -⟩ := hR
  unfold f_X8_count f_X9_count f_X7_made f_X4_made f_X0_held f_X4_fed
  by_cases q0 : v1 = 0
  · rw [if_pos q0, if_pos q0]
    exact ⟨_, _, rfl, congrArg (fun z => some (z, miU ms 0 0)) (b1.trans a4.symm), hX⟩
  rw [if_neg q0, if_neg q0]
  by_cases q1 : v1 = 1
  · rw [if_pos q1, if_pos q1]
    exact ⟨_, _, rfl, congrArg (fun z => some (z, miU ms 0 0)) (b3.trans a5.symm), hX⟩
  rw [if_neg q1, if_neg q1]
  by_cases q2 : v1 = 2
  · rw [if_pos q2, if_pos q2]
    exact ⟨_, _, rfl, congrArg (fun z => some (z, miU ms 0 0)) (b9.trans a0.symm), hX⟩
  rw [if_neg q2, if_neg q2]
  by_cases q3 : v1 = 3
  · rw [if_pos q3, if_pos q3]
    exact ⟨_, _, rfl, congrArg (fun z => some (z, miU ms 0 0)) (b13.trans a2.symm), hX⟩
  rw [if_neg q3, if_neg q3]
  by_cases q4 : v1 = 4
  · rw [if_pos q4, if_pos q4]
    exact ⟨_, _, rfl, congrArg (fun z => some (z, miU ms 0 0)) (b12.trans a1.symm), hX⟩
  rw [if_neg q4, if_neg q4]
  by_cases q5 : v1 = 5
  · rw [if_pos q5, if_pos q5]
    exact ⟨_, _, rfl, congrArg (fun z => some (z, miU ms 0 0)) (b10.trans a3.symm), hX⟩
  rw [if_neg q5, if_neg q5]
  by_cases q6 : v1 = 6
  · rw [if_pos q6, if_pos q6]
    exact ⟨_, _, rfl, congrArg (fun z => some (z, miU ms 0 0)) (b11.trans a11.symm), hX⟩
  rw [if_neg q6, if_neg q6]
  by_cases q7 : v1 = 7
  · rw [if_pos q7, if_pos q7]
    exact ⟨_, _, rfl, congrArg (fun z => some (z, miU ms 0 0)) (bt.trans a6.symm), hX⟩
  rw [if_neg q7, if_neg q7]
  exact ⟨_, _, rfl, rfl, hX⟩
theorem P_till : H_till RR := by
  rintro cs ms hR
  have hX : RR cs (miU ms 0 0) := hR
  obtain ⟨-, -, -, -, -, -, -, -, -, -, h⟩ := hR
  unfold f_X8_till f_X9_till
  exact ⟨_, _, rfl, congrArg (fun z => some (z, miU ms 0 0)) h.symm, hX⟩
theorem P_found : H_found RR := by
  rintro cs ms v1 hR
  have hX : RR cs (miU ms 0 0) := hR
  obtain ⟨-, -, -, -, -, -, -, -, ⟨k, hk, h1, h2, h3⟩, -, -⟩ := hR
  have h2' : mi (miU ms 0 0) 14 = nI k := h2
  unfold f_X8_found f_X9_found f_X2_numberAt
  rw [h1, h2']
  by_cases q1 : v1 < 0
  · rw [if_pos q1, if_pos q1]
    exact ⟨_, _, rfl, rfl, hX⟩
  obtain ⟨j, hj, rfl⟩ := nI_of q1
  rw [if_neg q1, if_neg q1]
  by_cases q2 : k ≤ j
  · rw [if_pos (nI_le q2 hj), if_pos (nI_le q2 hj)]
    exact ⟨_, _, rfl, rfl, hX⟩
  · rw [if_neg (nI_ge (by omega) (by omega)), if_neg (nI_ge (by omega) (by omega)), show (60 : Int32) = nI 60 from rfl, if_neg (nI_ge (by omega) (by omega)), ldI_n (by omega) hj, ldI_n (by omega) hj]
    exact ⟨_, _, rfl, congrArg (fun z => some (z, miU ms 0 0)) (h3 j (by omega)).symm, hX⟩
theorem P_day : H_day RR := by
  rintro cs ms v1 ⟨h1, h2, h3, h4, h5, h6, h7, h8, h9, ⟨d, hd, e1, e2⟩, h11⟩
  have e2' : mi (miU ms 0 0) 10 = nI d := e2
  unfold f_X8_day f_X9_day f_X9_day_21 f_X9_day_22 f_X9_day_47
  by_cases q1 : v1 < 0
  · rw [if_pos q1, if_pos q1, may_0 (t := 0) (by decide), b2_some, if_pos rfl]
    exact ⟨_, _, rfl, _, _, rfl, agr_r rfl (by simp) ⟨h1, h2, h3, h4, h5, h6, h7, h8, h9, ⟨d, hd, e1, e2⟩, h11⟩⟩
  obtain ⟨j, hj, rfl⟩ := nI_of q1
  rw [if_neg q1, if_neg q1, show (10000 : Int32) = nI 10000 from rfl, show (1000000 : Int32) = nI 1000000 from rfl]
  by_cases q2 : j ≤ 10000
  · rw [if_neg (nI_nlt q2 (by omega)), if_pos (nI_le q2 (by omega)), may_1, b2_some, if_neg one_ne, e1, e2', nI_add]
    by_cases q3 : d + j ≤ 1000000
    · rw [if_neg (nI_nlt q3 (by omega)), if_pos (nI_le q3 (by omega)), may_1, b2_some, if_neg one_ne]
      have e3 : mi (miU ms 0 0) 10 + nI j = nI (d + j) := by rw [e2', nI_add]
      by_cases q4 : j = 0
      · subst q4
        rw [if_pos (show nI 0 ≤ 0 by decide), if_pos (show nI 0 ≤ 0 by decide), e3]
        exact ⟨_, _, rfl, _, _, rfl, agr_l rfl ⟨h1, h2, h3, h4, h5, h6, h7, h8, h9, ⟨d, hd, e1, rfl⟩, h11⟩⟩
      · have q5 : ¬ nI j ≤ 0 := nI_ge (a := 0) (by omega) (by omega)
        rw [if_neg q5, if_neg q5, e3]
        exact ⟨nI (d + j), _, rfl, .inl (nI (d + j)), ciU (ciU cs 3 (nI (d + j))) 11 0, rfl, agr_l rfl ⟨h1, h2, h3, h4, h5, h6, h7, ⟨0, by omega, rfl, rfl, fun j hj => absurd hj (by omega), fun j j' hj => absurd hj (by omega)⟩, h9, ⟨d + j, q3, rfl, rfl⟩, h11⟩⟩
    · rw [if_pos (nI_lt (by omega) (by omega)), if_neg (nI_ge (by omega) (by omega)), may_0 (t := 0) (by decide), b2_some, if_pos rfl]
      exact ⟨_, _, rfl, _, _, rfl, agr_r rfl (by simp) ⟨h1, h2, h3, h4, h5, h6, h7, h8, h9, ⟨d, hd, e1, e2⟩, h11⟩⟩
  · rw [if_pos (nI_lt (by omega) (by omega)), if_neg (nI_ge (by omega) (by omega)), may_0 (t := 0) (by decide), b2_some, if_pos rfl]
    exact ⟨_, _, rfl, _, _, rfl, agr_r rfl (by simp) ⟨h1, h2, h3, h4, h5, h6, h7, h8, h9, ⟨d, hd, e1, e2⟩, h11⟩⟩
/-- a car, or none -/
theorem car_cases {cs : CS} {ms : MS} {v1 : Int32} (h : RCr cs ms) : (∃ c a : Nat, c < 40 ∧ v1 = nI c ∧ nI c < mi ms 9 ∧ CarAt cs ms c a ∧ CRng ms c ∧ f_X8_carAt cs v1 = some (some a) ∧ f_X8_carOf cs v1 = some (.inl (some a), cs) ∧ f_X9_isCar (miU ms 0 0) v1 = some (1, miU ms 0 0)) ∨ (f_X8_carOf cs v1 = some (.inr "java/util/NoSuchElementException", cs) ∧ f_X9_isCar (miU ms 0 0) v1 = some (0, miU ms 0 1)) := by
  obtain ⟨n, hn, h1, h2, h3, h4⟩ := h
  have h2' : mi (miU ms 0 0) 9 = nI n := h2
  unfold f_X8_carOf f_X8_carAt f_X9_isCar
  rw [h1, h2', show (40 : Int32) = nI 40 from rfl]
  by_cases q1 : v1 < 0
  · refine Or.inr ⟨by rw [if_pos q1]; rfl, by rw [if_pos q1, may_0 (t := 0) (by decide), b2_some, gd_t (Or.inl rfl)]⟩
  obtain ⟨c, hc, rfl⟩ := nI_of q1
  by_cases q2 : n ≤ c
  · exact Or.inr ⟨by rw [if_neg q1, if_pos (nI_le q2 hc)]; rfl, by rw [if_neg q1, if_pos (nI_le q2 hc), may_0 (t := 0) (by decide), b2_some, gd_t (Or.inl rfl)]⟩
  · obtain ⟨hr, a, ha⟩ := h3 c (by omega)
    have e : ((ldQ (cg cs 8) 40 (nI c)).bind fun r5 => ob r5 (some none) fun a6 => some (some a6)) = some (some a) := by
      rw [ldQ_n (by omega) hc, ha.1]; rfl
    refine Or.inl ⟨c, a, by omega, rfl, by rw [h2]; exact nI_lt (by omega) (by omega), ha, hr, ?_, ?_, ?_⟩
    · rw [if_neg q1, if_neg (nI_ge (by omega) (by omega)), if_neg (nI_ge (by omega) (by omega)), e]
    · rw [if_neg q1, if_neg (nI_ge (by omega) (by omega)), if_neg (nI_ge (by omega) (by omega)), e]; rfl
    · rw [if_neg q1, if_neg (nI_ge (by omega) (by omega)), may_1, b2_some, gd_t (Or.inr rfl)]
theorem zb_if {α : Type} {x : Int32} (h : zb x) {f : Int32 → α} : (if x = 0 then f 0 else f 1) = f x := by
  rcases h with h | h
  · rw [if_pos h, h]
  · rw [if_neg (by rw [h]; decide), h]
theorem P_about : H_about RR := by
  rintro cs ms v1 v2 hR
  have hX : RR cs (miU ms 0 0) := hR
  have hX1 : RR cs (miU ms 0 1) := hR
  have hX2 : RR cs (miU ms 0 2) := hR
  obtain ⟨-, -, -, -, h5, -⟩ := hR
  unfold f_X8_about f_X9_about f_X9_about_28 f_X9_about_29
  rcases car_cases (v1 := v1) h5 with ⟨c, a, hc, rfl, hc9, hA, hG, -, e1, e2⟩ | ⟨e1, e2⟩
  · obtain ⟨-, x2, x3, y0, y1, y2, y3, y4, y5, y6, y7, y8⟩ := hA
    obtain ⟨z1, z2, z3', -⟩ := hG
    have z3 : zb (ma ms 54 c) := z3'.imp id And.left
    have hcl : a ∈ cl cs ∧ ck cs a = 0 := ⟨x2, x3⟩
    rw [e1, e2, b2_some, if_neg one_ne, bx_inl]
    show ∃ rb ms', _ ∧ ∃ r cs', (if v2 = 0 then _ else _) = some (r, cs') ∧ _
    have hbad : ∀ (q : v2 < 0 ∨ 7 < v2), v2 ≠ 0 ∧ v2 ≠ 1 ∧ v2 ≠ 2 ∧ v2 ≠ 3 ∧ v2 ≠ 4 ∧ v2 ≠ 5 ∧ v2 ≠ 6 ∧ v2 ≠ 7 := by
      intro q
      refine ⟨?_, ?_, ?_, ?_, ?_, ?_, ?_, ?_⟩ <;> (rintro rfl; rcases q with q | q <;> exact absurd q (by decide))
    by_cases q : v2 < 0 ∨ 7 < v2
    · obtain ⟨p0, p1, p2, p3, p4, p5, p6, p7⟩ := hbad q
      rw [if_neg p0, if_neg p1, if_neg p2, if_neg p3, if_neg p4, if_neg p5, if_neg p6, if_neg p7]
      refine ⟨0, miU ms 0 2, ?_, _, _, rfl, agr_r rfl (by simp) hX2⟩
      by_cases q0 : v2 < 0
      · rw [if_pos q0, may_0 (t := 0) (by decide), b2_some, if_pos rfl]
      · rw [if_neg q0, if_pos (q.resolve_left q0), may_0 (t := 0) (by decide), b2_some, if_pos rfl]
    · have q1 : ¬ v2 < 0 := fun z => q (Or.inl z)
      have q2 : ¬ 7 < v2 := fun z => q (Or.inr z)
      rw [if_neg q1, if_neg q2, may_1, b2_some, if_neg one_ne]
      have hc31 : c < 2 ^ 31 := by omega
      by_cases p0 : v2 = 0
      · rw [if_pos p0, if_pos p0, gd_t hcl, ldI_n hc hc31, y0]
        exact ⟨_, _, rfl, _, _, rfl, agr_l rfl hX⟩
      rw [if_neg p0, if_neg p0]
      by_cases p1 : v2 = 1
      · rw [if_pos p1, if_pos p1, gd_t hcl, ldI_n hc hc31, y1]
        exact ⟨_, _, rfl, _, _, rfl, agr_l rfl hX⟩
      rw [if_neg p1, if_neg p1]
      by_cases p2 : v2 = 2
      · rw [if_pos p2, if_pos p2, gd_t hcl, ldI_n hc hc31, y2]
        exact ⟨_, _, rfl, _, _, rfl, agr_l rfl hX⟩
      rw [if_neg p2, if_neg p2]
      by_cases p3 : v2 = 3
      · rw [if_pos p3, if_pos p3, gd_t hcl, ldI_n hc hc31, y5]
        exact ⟨_, _, rfl, _, _, rfl, agr_l rfl hX⟩
      rw [if_neg p3, if_neg p3]
      by_cases p4 : v2 = 4
      · rw [if_pos p4, if_pos p4, gd_t hcl, ldI_n hc hc31, y6, some_bind]
        exact ⟨ma ms 52 c, miU ms 0 0, zb_if (f := fun x => some (x, miU ms 0 0)) z1, .inl (ma ms 52 c), cs, zb_if (f := fun x => some ((.inl x, cs) : (Int32 ⊕ String) × CS)) z1, agr_l rfl hX⟩
      rw [if_neg p4, if_neg p4]
      by_cases p5 : v2 = 5
      · rw [if_pos p5, if_pos p5, gd_t hcl, ldI_n hc hc31, y7, some_bind]
        exact ⟨ma ms 53 c, miU ms 0 0, zb_if (f := fun x => some (x, miU ms 0 0)) z2, .inl (ma ms 53 c), cs, zb_if (f := fun x => some ((.inl x, cs) : (Int32 ⊕ String) × CS)) z2, agr_l rfl hX⟩
      rw [if_neg p5, if_neg p5]
      by_cases p6 : v2 = 6
      · rw [if_pos p6, if_pos p6, gd_t hcl, ldI_n hc hc31, y8, some_bind]
        exact ⟨ma ms 54 c, miU ms 0 0, zb_if (f := fun x => some (x, miU ms 0 0)) z3, .inl (ma ms 54 c), cs, zb_if (f := fun x => some ((.inl x, cs) : (Int32 ⊕ String) × CS)) z3, agr_l rfl hX⟩
      rw [if_neg p6, if_neg p6]
      have p7 : v2 = 7 := by
        obtain ⟨j, hj, rfl⟩ := nI_of q1
        have : j ≤ 7 := Nat.le_of_not_lt fun z => q2 (nI_lt (a := 7) z hj)
        rcases (show j = 0 ∨ j = 1 ∨ j = 2 ∨ j = 3 ∨ j = 4 ∨ j = 5 ∨ j = 6 ∨ j = 7 by omega) with rfl | rfl | rfl | rfl | rfl | rfl | rfl | rfl
        · exact absurd rfl p0
        · exact absurd rfl p1
        · exact absurd rfl p2
        · exact absurd rfl p3
        · exact absurd rfl p4
        · exact absurd rfl p5
        · exact absurd rfl p6
        · rfl
      rw [if_pos p7, gd_t hcl, ldI_n hc hc31, y4]
      exact ⟨_, _, rfl, _, _, rfl, agr_l rfl hX⟩
  · rw [e1, e2, b2_some, if_pos rfl, bx_inr]
    exact ⟨_, _, rfl, _, _, rfl, agr_r rfl (by simp) hX1⟩

/-! ===== an act more, on both sides; drain, papers ===== -/
theorem RAc_add {cs : CS} {ms : MS} (h : RAc cs ms) {v1 v2 v3 v : Int32}
    (hnew : ((v1 = 1 ∨ v1 = 2) ∧ v = v2 ∧ ∃ c, c < 40 ∧ v2 = nI c ∧ nI c < mi ms 9) ∨ (v1 = 3 ∧ v = v3 ∧ (∃ i, i < 400 ∧ v3 = nI i ∧ nI i < mi ms 12 ∧ v2 = ma ms 63 i ∧ ma ms 65 i = 0 ∧ ∃ c, c < 40 ∧ ma ms 63 i = nI c ∧ ma ms 54 c = 0) ∧ ∀ j k, mi ms 11 = nI k → k ≤ 10 → j < k → ma ms 60 j = 3 → ma ms 62 j ≠ v3)) :
    ∃ (g h g' h' w' : Nat → Int32) (nn : Int32), f_X0_remember cs v1 v = some (ciU (ca2 cs g h) 11 nn) ∧ f_X9_acted ms v1 v2 v3 = some (miU (ma3 ms g' h' w') 11 nn) ∧ RAc (ciU (ca2 cs g h) 11 nn) (miU (ma3 ms g' h' w') 11 nn) := by
  obtain ⟨k, hk, e1, e2, hA, hd⟩ := h
  obtain ⟨g, h, z, o, a1, a2, a3, a4, a5, a6, a7⟩ := remember_n (v1 := v1) (v2 := v) hk e1
  obtain ⟨g', h', w', z', o', b1, b2, b3, b4, b5, b6, b7, b8⟩ := acted_n (v1 := v1) (v2 := v2) (v3 := v3) hk e2
  obtain rfl : o' = o := by omega
  obtain rfl : z' = z := by omega
  refine ⟨g, h, g', h', w', nI (z' + 1), a3, b3, z' + 1, by omega, rfl, rfl, fun j hj => ?_, fun j j' hj hj' q1 q2 q3 => ?_⟩
  · show g j = g' j ∧ (((g' j = 1 ∨ g' j = 2) ∧ h j = h' j ∧ ∃ c, c < 40 ∧ h' j = nI c ∧ nI c < mi ms 9) ∨ (g' j = 3 ∧ h j = w' j ∧ ∃ i, i < 400 ∧ w' j = nI i ∧ nI i < mi ms 12 ∧ h' j = ma ms 63 i ∧ ma ms 65 i = 0 ∧ ∃ c, c < 40 ∧ ma ms 63 i = nI c ∧ ma ms 54 c = 0))
    by_cases q : j < z'
    · rw [(a4 j q).1, (a4 j q).2, (b4 j q).1, (b4 j q).2.1, (b4 j q).2.2]
      exact hA (j + o') (by omega)
    · obtain rfl : j = z' := by omega
      rw [a5, a6, b5, b6, b7]
      refine ⟨rfl, ?_⟩
      rcases hnew with hn | ⟨n1, n2, n3, -⟩
      · exact Or.inl hn
      · exact Or.inr ⟨n1, n2, n3⟩
  · replace q1 : g' j = 3 := q1
    replace q2 : g' j' = 3 := q2
    replace q3 : w' j = w' j' := q3
    by_cases qa : j < z'
    · rw [(b4 j qa).1] at q1
      rw [(b4 j qa).2.2] at q3
      by_cases qb : j' < z'
      · rw [(b4 j' qb).1] at q2
        rw [(b4 j' qb).2.2] at q3
        have := hd (j + o') (j' + o') (by omega) (by omega) q1 q2 q3
        omega
      · obtain rfl : j' = z' := by omega
        rw [b5] at q2
        rw [b7] at q3
        rcases hnew with ⟨n1 | n1, -⟩ | ⟨-, -, -, n4⟩
        · rw [n1] at q2; exact absurd q2 (by decide)
        · rw [n1] at q2; exact absurd q2 (by decide)
        · exact absurd q3 (n4 (j + o') k e2 hk (by omega) q1)
    · obtain rfl : j = z' := by omega
      by_cases qb : j' < j
      · rw [b5] at q1
        rw [b7, (b4 j' qb).2.2] at q3
        rw [(b4 j' qb).1] at q2
        rcases hnew with ⟨n1 | n1, -⟩ | ⟨-, -, -, n4⟩
        · rw [n1] at q1; exact absurd q1 (by decide)
        · rw [n1] at q1; exact absurd q1 (by decide)
        · exact absurd q3.symm (n4 (j' + o') k e2 hk (by omega) q2)
      · omega
theorem cp_ne {cs : CS} {a a' f k : Nat} {x : Int32} (h : a' ≠ a) : cp (cpU cs a f x) a' k = cp cs a' k := by
  show va_up cs.2.2.2.2.2.2.2 a _ a' k = _
  unfold va_up
  rw [if_neg h]
  rfl
theorem cp_eq {cs : CS} {a f : Nat} {x : Int32} : cp (cpU cs a f x) a f = x := by
  show va_up cs.2.2.2.2.2.2.2 a _ a f = _
  unfold va_up
  rw [if_pos rfl, if_pos rfl]
theorem cp_nf {cs : CS} {a f k : Nat} {x : Int32} (h : k ≠ f) : cp (cpU cs a f x) a k = cp cs a k := by
  show va_up cs.2.2.2.2.2.2.2 a _ a k = _
  unfold va_up
  rw [if_pos rfl, if_neg h]
  rfl
theorem RIt_cpU {cs : CS} {ms : MS} (h : RIt cs ms) {a f : Nat} {x : Int32} (ha : ck cs a = 0) : RIt (cpU cs a f x) ms := by
  obtain ⟨n, hn, h1, h2, h3, h4, h5, h6, h7⟩ := h
  refine ⟨n, hn, h1, h2, fun i hi => ?_, h4, h5, h6, h7⟩
  obtain ⟨hr, a', x1, x2, x3, y0, y2, y3, y4, y5, y1⟩ := h3 i hi
  have hne : a' ≠ a := fun q => by rw [q, ha] at x3; exact absurd x3 (by decide)
  refine ⟨hr, a', x1, x2, x3, ?_, ?_, ?_, ?_, fun q => ?_, fun c q1 q2 => ?_⟩
  · rw [cp_ne hne]; exact y0
  · rw [cp_ne hne]; exact y2
  · rw [cp_ne hne]; exact y3
  · rw [cp_ne hne]; exact y4
  · rw [cp_ne hne]; exact y5 q
  · rw [cp_ne hne]; exact y1 c q1 q2
theorem P_drain : H_drain RR := by
  rintro cs ms v1 hR
  have hX0 : RR cs (miU ms 0 0) := hR
  have hX1 : RR cs (miU ms 0 1) := hR
  obtain ⟨h1, h2, h3, h4, h5, h6, h7, h8, h9, h10, h11⟩ := hR
  unfold f_X8_drain f_X9_drain
  rcases car_cases (v1 := v1) h5 with ⟨c, a, hc, rfl, hc9, hA, hG, -, e1, e2⟩ | ⟨e1, e2⟩
  · obtain ⟨x1, x2, x3, y0, y1, y2, y3, y4, y5, y6, y7, y8⟩ := hA
    have hcl : a ∈ cl cs ∧ ck cs a = 0 := ⟨x2, x3⟩
    have hc31 : c < 2 ^ 31 := by omega
    rw [e1, e2, b2_some, if_neg one_ne, bx_inl, ldI_n hc hc31, some_bind, ldI_n hc hc31, some_bind, ixr_n hc hc31, nI_clamp hc31]
    show ∃ rb ms', _ ∧ ∃ r cs', gd _ _ = some (r, cs') ∧ _
    rw [gd_t hcl, y6, y8]
    show ∃ rb ms', (if ma ms 52 c = 0 then (if ma ms 54 c = 0 then _ else _) else _) = some (rb, ms') ∧ _
    by_cases q1 : ma ms 52 c = 0
    · rw [if_pos q1, if_pos q1]
      by_cases q2 : ma ms 54 c = 0
      · rw [if_pos q2, if_pos q2]
        have h8' : RAc (cpU cs a 6 1) (maU (miU ms 0 0) 52 c (vp_nar .boolean 1)) := h8
        obtain ⟨g, h, g', h', w', nn, r1, r2, r3⟩ := RAc_add h8' (v1 := 1) (v := nI c) (v2 := nI c) (v3 := 0) (Or.inl ⟨Or.inl rfl, rfl, c, hc, rfl, hc9⟩)
        rw [r1, r2]
        refine ⟨_, _, rfl, _, _, rfl, agr_l rfl ⟨h1, h2, h3, h4, ?_, RIt_cpU h6 x3, h7, r3, h9, h10, h11⟩⟩
        obtain ⟨n, hn, i1, i2, i3, i4⟩ := h5
        have hcn : c < n := by rw [i2] at hc9; exact (nI_lt_iff hc31 (by omega)).mp hc9
        have g1 : RCr (cpU cs a 6 1) (maU ms 52 c 1) := by
          refine ⟨n, hn, i1, i2, fun c' hc' => ?_, i4⟩
          obtain ⟨⟨z1, z2⟩, a', ha'⟩ := i3 c' hc'
          refine ⟨⟨?_, z2⟩, a', ?_⟩
          · show zb (upd (ma ms 52) c 1 c')
            by_cases q : c' = c
            · rw [q, upd_eq]; exact Or.inr rfl
            · rw [upd_ne q]; exact z1
          · obtain ⟨u1, u2, u3, w0, w1, w2, w3, w4, w5, w6, w7, w8⟩ := ha'
            by_cases q : c' = c
            · subst q
              obtain rfl : a' = a := by rw [x1] at u1; exact (Option.some.inj u1).symm
              refine ⟨u1, u2, u3, ?_, ?_, ?_, ?_, ?_, ?_, ?_, ?_, ?_⟩
              · rw [cp_nf (by decide)]; exact w0
              · rw [cp_nf (by decide)]; exact w1
              · rw [cp_nf (by decide)]; exact w2
              · rw [cp_nf (by decide)]; exact w3
              · rw [cp_nf (by decide)]; exact w4
              · rw [cp_nf (by decide)]; exact w5
              · rw [cp_eq]; exact (upd_eq (f := ma ms 52)).symm
              · rw [cp_nf (by decide)]; exact w7
              · rw [cp_nf (by decide)]; exact w8
            · have hne : a' ≠ a := fun z => q (i4 c' c a hc' hcn (z ▸ u1) x1)
              refine ⟨u1, u2, u3, ?_, ?_, ?_, ?_, ?_, ?_, ?_, ?_, ?_⟩
              · rw [cp_ne hne]; exact w0
              · rw [cp_ne hne]; exact w1
              · rw [cp_ne hne]; exact w2
              · rw [cp_ne hne]; exact w3
              · rw [cp_ne hne]; exact w4
              · rw [cp_ne hne]; exact w5
              · rw [cp_ne hne]; exact w6.trans (upd_ne (f := ma ms 52) q).symm
              · rw [cp_ne hne]; exact w7
              · rw [cp_ne hne]; exact w8
        exact g1
      · rw [if_neg q2, if_neg q2]
        exact ⟨_, _, rfl, _, _, rfl, agr_l rfl hX0⟩
    · rw [if_neg q1, if_neg q1]
      exact ⟨_, _, rfl, _, _, rfl, agr_l rfl hX0⟩
  · rw [e1, e2, b2_some, if_pos rfl, bx_inr]
    exact ⟨_, _, rfl, _, _, rfl, agr_r rfl (by simp) hX1⟩
theorem P_papers : H_papers RR := by
  rintro cs ms v1 hR
  have hX0 : RR cs (miU ms 0 0) := hR
  have hX1 : RR cs (miU ms 0 1) := hR
  obtain ⟨h1, h2, h3, h4, h5, h6, h7, h8, h9, h10, h11⟩ := hR
  unfold f_X8_papers f_X9_papers
  rcases car_cases (v1 := v1) h5 with ⟨c, a, hc, rfl, hc9, hA, hG, -, e1, e2⟩ | ⟨e1, e2⟩
  · obtain ⟨x1, x2, x3, y0, y1, y2, y3, y4, y5, y6, y7, y8⟩ := hA
    have hcl : a ∈ cl cs ∧ ck cs a = 0 := ⟨x2, x3⟩
    have hc31 : c < 2 ^ 31 := by omega
    rw [e1, e2, b2_some, if_neg one_ne, bx_inl, ldI_n hc hc31, some_bind, ldI_n hc hc31, some_bind, ixr_n hc hc31, nI_clamp hc31]
    show ∃ rb ms', _ ∧ ∃ r cs', gd _ _ = some (r, cs') ∧ _
    rw [gd_t hcl, y7, y8]
    show ∃ rb ms', (if ma ms 53 c = 0 then (if ma ms 54 c = 0 then _ else _) else _) = some (rb, ms') ∧ _
    by_cases q1 : ma ms 53 c = 0
    · rw [if_pos q1, if_pos q1]
      by_cases q2 : ma ms 54 c = 0
      · rw [if_pos q2, if_pos q2]
        have h8' : RAc (cpU cs a 7 1) (maU (miU ms 0 0) 53 c (vp_nar .boolean 1)) := h8
        obtain ⟨g, h, g', h', w', nn, r1, r2, r3⟩ := RAc_add h8' (v1 := 2) (v := nI c) (v2 := nI c) (v3 := 0) (Or.inl ⟨Or.inr rfl, rfl, c, hc, rfl, hc9⟩)
        rw [r1, r2]
        refine ⟨_, _, rfl, _, _, rfl, agr_l rfl ⟨h1, h2, h3, h4, ?_, RIt_cpU h6 x3, h7, r3, h9, h10, h11⟩⟩
        obtain ⟨n, hn, i1, i2, i3, i4⟩ := h5
        have hcn : c < n := by rw [i2] at hc9; exact (nI_lt_iff hc31 (by omega)).mp hc9
        have g1 : RCr (cpU cs a 7 1) (maU ms 53 c 1) := by
          refine ⟨n, hn, i1, i2, fun c' hc' => ?_, i4⟩
          obtain ⟨⟨z1, z2, z3⟩, a', ha'⟩ := i3 c' hc'
          refine ⟨⟨z1, ?_, z3⟩, a', ?_⟩
          · show zb (upd (ma ms 53) c 1 c')
            by_cases q : c' = c
            · rw [q, upd_eq]; exact Or.inr rfl
            · rw [upd_ne q]; exact z2
          · obtain ⟨u1, u2, u3, w0, w1, w2, w3, w4, w5, w6, w7, w8⟩ := ha'
            by_cases q : c' = c
            · subst q
              obtain rfl : a' = a := by rw [x1] at u1; exact (Option.some.inj u1).symm
              refine ⟨u1, u2, u3, ?_, ?_, ?_, ?_, ?_, ?_, ?_, ?_, ?_⟩
              · rw [cp_nf (by decide)]; exact w0
              · rw [cp_nf (by decide)]; exact w1
              · rw [cp_nf (by decide)]; exact w2
              · rw [cp_nf (by decide)]; exact w3
              · rw [cp_nf (by decide)]; exact w4
              · rw [cp_nf (by decide)]; exact w5
              · rw [cp_nf (by decide)]; exact w6
              · rw [cp_eq]; exact (upd_eq (f := ma ms 53)).symm
              · rw [cp_nf (by decide)]; exact w8
            · have hne : a' ≠ a := fun z => q (i4 c' c a hc' hcn (z ▸ u1) x1)
              refine ⟨u1, u2, u3, ?_, ?_, ?_, ?_, ?_, ?_, ?_, ?_, ?_⟩
              · rw [cp_ne hne]; exact w0
              · rw [cp_ne hne]; exact w1
              · rw [cp_ne hne]; exact w2
              · rw [cp_ne hne]; exact w3
              · rw [cp_ne hne]; exact w4
              · rw [cp_ne hne]; exact w5
              · rw [cp_ne hne]; exact w6
              · rw [cp_ne hne]; exact w7.trans (upd_ne (f := ma ms 53) q).symm
              · rw [cp_ne hne]; exact w8
        exact g1
      · rw [if_neg q2, if_neg q2]
        exact ⟨_, _, rfl, _, _, rfl, agr_l rfl hX0⟩
    · rw [if_neg q1, if_neg q1]
      exact ⟨_, _, rfl, _, _, rfl, agr_l rfl hX0⟩
  · rw [e1, e2, b2_some, if_pos rfl, bx_inr]
    exact ⟨_, _, rfl, _, _, rfl, agr_r rfl (by simp) hX1⟩

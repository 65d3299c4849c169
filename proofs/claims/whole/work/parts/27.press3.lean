theorem RCr_press {cs : CS} {ms : MS} (h : RCr cs ms) {c a : Nat} (hc : c < 40) (hc9 : nI c < mi ms 9) (hA : CarAt cs ms c a) : RCr (cpU (cpU cs a 5 0) a 8 1) (maU (maU ms 50 c 0) 54 c 1) := by
  obtain ⟨n, hn, i1, i2, i3, i4⟩ := h
  obtain ⟨x1, x2, x3, -⟩ := hA
  have hcn : c < n := by rw [i2] at hc9; exact (nI_lt_iff (by omega) (by omega)).mp hc9
  refine ⟨n, hn, i1, i2, fun c' hc' => ?_, i4⟩
  obtain ⟨⟨z1, z2, z3, m, k, k', o, r1, r2, r3, r4, r5, r6, r7, r8, r9⟩, a', ha'⟩ := i3 c' hc'
  have e54 : ma (maU (maU ms 50 c 0) 54 c 1) 54 = upd (ma ms 54) c 1 := rfl
  have e50 : ma (maU (maU ms 50 c 0) 54 c 1) 50 = upd (ma ms 50) c 0 := rfl
  obtain ⟨u1, u2, u3, w0, w1, w2, w3, w4, w5, w6, w7, w8⟩ := ha'
  by_cases q : c' = c
  · subst q
    obtain rfl : a' = a := by rw [x1] at u1; exact (Option.some.inj u1).symm
    refine ⟨⟨z1, z2, ?_, m, k, k', 0, r1, r2, r3, r4, r5, r6, r7, Nat.two_pow_pos k, ?_⟩, a', u1, u2, u3, ?_, ?_, ?_, ?_, ?_, ?_, ?_, ?_, ?_⟩
    · rw [e54, upd_eq]; exact Or.inr ⟨rfl, by rw [e50, upd_eq]⟩
    · rw [e50, upd_eq]; rfl
    · rw [cp_nf (by decide), cp_nf (by decide)]; exact w0
    · rw [cp_nf (by decide), cp_nf (by decide)]; exact w1
    · rw [cp_nf (by decide), cp_nf (by decide)]; exact w2
    · rw [cp_nf (by decide), cp_nf (by decide)]; exact w3
    · rw [cp_nf (by decide), cp_nf (by decide)]; exact w4
    · rw [cp_nf (by decide), cp_eq, e50, upd_eq]
    · rw [cp_nf (by decide), cp_nf (by decide)]; exact w6
    · rw [cp_nf (by decide), cp_nf (by decide)]; exact w7
    · rw [cp_eq, e54, upd_eq]
  · have hne : a' ≠ a := fun z => q (i4 c' c a hc' hcn (z ▸ u1) x1)
    refine ⟨⟨z1, z2, ?_, m, k, k', o, r1, r2, r3, r4, r5, r6, r7, r8, ?_⟩, a', u1, u2, u3, ?_, ?_, ?_, ?_, ?_, ?_, ?_, ?_, ?_⟩
    · rw [e54, e50, upd_ne q, upd_ne q]; exact z3
    · rw [e50, upd_ne q]; exact r9
    · rw [cp_ne hne, cp_ne hne]; exact w0
    · rw [cp_ne hne, cp_ne hne]; exact w1
    · rw [cp_ne hne, cp_ne hne]; exact w2
    · rw [cp_ne hne, cp_ne hne]; exact w3
    · rw [cp_ne hne, cp_ne hne]; exact w4
    · rw [cp_ne hne, cp_ne hne, e50, upd_ne q]; exact w5
    · rw [cp_ne hne, cp_ne hne]; exact w6
    · rw [cp_ne hne, cp_ne hne]; exact w7
    · rw [cp_ne hne, cp_ne hne, e54, upd_ne q]; exact w8
theorem P_press : H_press RR := by
  rintro cs ms v1 hR
  have hX0 : RR cs (miU ms 0 0) := hR
  have hX1 : RR cs (miU ms 0 1) := hR
  obtain ⟨h1, h2, h3, h4, h5, h6, h7, h8, h9, h10, h11⟩ := hR
  unfold f_X8_press f_X9_press
  rcases car_cases (v1 := v1) h5 with ⟨c, a, hc, rfl, hc9, hA, hG, -, e1, e2⟩ | ⟨e1, e2⟩
  · obtain ⟨x1, x2, x3, y0, y1, y2, y3, y4, y5, y6, y7, y8⟩ := id hA
    obtain ⟨-, -, -, m, k, k', o, hm, g1, hk0, hkk, hk', g2, g3, -⟩ := id hG
    have hc31 : c < 2 ^ 31 := by omega
    have e54 : ma (miU ms 0 0) 54 = ma ms 54 := rfl
    have e52 : ma (miU ms 0 0) 52 = ma ms 52 := rfl
    have e53 : ma (miU ms 0 0) 53 = ma ms 53 := rfl
    have e46 : ma (miU ms 0 0) 46 c = nI m := g1
    have hMd0 : RMd cs (miU ms 0 0) := h4
    have hA0 : CarAt cs (miU ms 0 0) c a := hA
    unfold f_X8_pressHindranceOf f_X8_hasDangerOn
    rw [e1, e2, b2_some, if_neg one_ne, bx_inl, ob_some, ob_some, ob_some, gd_t ⟨x2, x3⟩, y8, y6, y7]
    simp only [ldI_n hc hc31, some_bind, e54, e52, e53, e46, l24, nI_mul]
    by_cases q1 : ma ms 54 c = 0
    · rw [if_pos q1, if_pos q1]
      by_cases q2 : ma ms 52 c = 0
      · rw [if_pos q2, if_pos q2, some_bind, if_neg (by decide)]
        exact ⟨_, _, rfl, _, _, rfl, agr_l rfl hX0⟩
      rw [if_neg q2, if_neg q2]
      by_cases q3 : ma ms 53 c = 0
      · rw [if_pos q3, if_pos q3, some_bind, if_neg (by decide)]
        exact ⟨_, _, rfl, _, _, rfl, agr_l rfl hX0⟩
      rw [if_neg q3, if_neg q3]
      rcases danger_loop hMd0 hc hA0 hm g1 g2 hkk hk' g3 1000 0 (by omega) (by omega) with ⟨d1, d2⟩ | ⟨d1, d2⟩
      · obtain ⟨r, W', P', p1, p2, p3⟩ := press_loop hMd0 hc hA0 hm g1 g2 hkk hk' g3 1000 0 0 (ca cs 10) (mb ms 57) (by omega) (by omega) (by rw [caS_id]; exact h7)
        rw [show f_X8_hasDangerOn_2 1000 cs a 0 = some 0 from d1, some_bind, if_pos rfl, some_bind, if_pos rfl]
        rw [show f_X9_press_62 1000 (miU ms 0 0) (nI c) (nI (24 * m)) 0 = _ from d2]
        rw [caS_id] at p1
        have p2' : f_X9_press_107 1000 (miU ms 0 0) (nI c) (nI (24 * m)) 0 0 = _ := (congrArg (fun z => f_X9_press_107 1000 z (nI c) (nI (24 * m)) 0 0) (mbS_id (s := miU ms 0 0) (k := 57)).symm).trans p2
        refine ⟨_, _, p2', _, _, p1, agr_l rfl ⟨h1, h2, h3, h4, ?_, ?_, p3, ⟨0, by omega, rfl, rfl, fun j hj => absurd hj (by omega), fun j j' hj => absurd hj (by omega)⟩, h9, h10, h11⟩⟩
        · exact RCr_press h5 hc hc9 hA
        · have t1 : RIt (cpU cs a 5 0) ms := RIt_cpU h6 x3
          have t2 : RIt (cpU (cpU cs a 5 0) a 8 1) ms := RIt_cpU t1 x3
          exact t2
      · rw [show f_X8_hasDangerOn_2 1000 cs a 0 = some 1 from d1, some_bind, if_neg one_ne, some_bind, if_neg (by decide)]
        rw [show f_X9_press_62 1000 (miU ms 0 0) (nI c) (nI (24 * m)) 0 = _ from d2]
        exact ⟨_, _, rfl, _, _, rfl, agr_l rfl hX0⟩
    · rw [if_neg q1, if_neg q1, some_bind, if_neg one_ne]
      exact ⟨_, _, rfl, _, _, rfl, agr_l rfl hX0⟩
  · rw [e1, e2, b2_some, if_pos rfl, bx_inr]
    exact ⟨_, _, rfl, _, _, rfl, agr_r rfl (by simp) hX1⟩

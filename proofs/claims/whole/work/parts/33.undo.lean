/-! ===== undo ===== -/
theorem RCr_set {cs cs' : CS} {ms ms' : MS} (h : RCr cs ms) {c a : Nat} (hc : c < 40) (hlt : nI c < mi ms 9) (hA : CarAt cs ms c a) (e0 : ci cs' 0 = ci cs 0) (e9 : mi ms' 9 = mi ms 9) (eg : cg cs' 8 = cg cs 8) (el : cl cs' = cl cs) (ek : ck cs' = ck cs) (ep : ∀ b k, b ≠ a → ck cs b = 0 → cp cs' b k = cp cs b k) (e37 : ma ms' 37 = ma ms 37) (e46 : ma ms' 46 = ma ms 46) (e47 : ma ms' 47 = ma ms 47) (e48 : ma ms' 48 = ma ms 48) (e49 : ma ms' 49 = ma ms 49) (e51 : ma ms' 51 = ma ms 51) (m50 : ∀ j, j ≠ c → ma ms' 50 j = ma ms 50 j) (m52 : ∀ j, j ≠ c → ma ms' 52 j = ma ms 52 j) (m53 : ∀ j, j ≠ c → ma ms' 53 j = ma ms 53 j) (m54 : ∀ j, j ≠ c → ma ms' 54 j = ma ms 54 j) (hA' : CarAt cs' ms' c a) (hG' : CRng ms' c) : RCr cs' ms' := by
  obtain ⟨n, hn, i1, i2, i3, i4⟩ := h
  have hcn : c < n := by rw [i2] at hlt; exact (nI_lt_iff (by omega) (by omega)).mp hlt
  refine ⟨n, hn, e0.trans i1, e9.trans i2, fun c' hc' => ?_, by rw [eg]; exact i4⟩
  by_cases q : c' = c
  · subst q; exact ⟨hG', a, hA'⟩
  obtain ⟨⟨z1, z2, z3, m, k, k', o, r1, r2, r3, r4, r5, r6, r7, r8, r9⟩, a', u1, u2, u3, w0, w1, w2, w3, w4, w5, w6, w7, w8⟩ := i3 c' hc'
  have hne : a' ≠ a := fun z => q (i4 c' c a hc' hcn (z ▸ u1) hA.1)
  refine ⟨⟨by rw [m52 _ q]; exact z1, by rw [m53 _ q]; exact z2, by rw [m54 _ q, m50 _ q]; exact z3, m, k, k', o, r1, by rw [e46]; exact r2, r3, r4, r5, by rw [e49]; exact r6, by rw [e37]; exact r7, r8, by rw [m50 _ q]; exact r9⟩, a', by rw [eg]; exact u1, by rw [el]; exact u2, by rw [ek]; exact u3, ?_, ?_, ?_, ?_, ?_, ?_, ?_, ?_, ?_⟩
  · rw [ep _ _ hne u3, e46]; exact w0
  · rw [ep _ _ hne u3, e47]; exact w1
  · rw [ep _ _ hne u3, e48]; exact w2
  · rw [ep _ _ hne u3, e49]; exact w3
  · rw [ep _ _ hne u3, e51]; exact w4
  · rw [ep _ _ hne u3, m50 _ q]; exact w5
  · rw [ep _ _ hne u3, m52 _ q]; exact w6
  · rw [ep _ _ hne u3, m53 _ q]; exact w7
  · rw [ep _ _ hne u3, m54 _ q]; exact w8
theorem RAc_drop {cs cs' : CS} {ms ms' : MS} (h : RAc cs ms) {k : Nat} (hk : k + 1 ≤ 10) (e : mi ms 11 = nI (k + 1)) (e11 : ci cs' 11 = nI k) (m11 : mi ms' 11 = nI k) (e22 : ca cs' 22 = ca cs 22) (e23 : ca cs' 23 = ca cs 23) (e60 : ma ms' 60 = ma ms 60) (e61 : ma ms' 61 = ma ms 61) (e62 : ma ms' 62 = ma ms 62) (e63 : ma ms' 63 = ma ms 63) (e54 : ma ms' 54 = ma ms 54) (e9 : mi ms' 9 = mi ms 9) (e12 : mi ms' 12 = mi ms 12) (h65 : ∀ i, i < 400 → (ma ms 60 k = 3 → nI i ≠ ma ms 62 k) → ma ms 65 i = 0 → ma ms' 65 i = 0) : RAc cs' ms' := by
  obtain ⟨k2, hk2, i1, i2, i3, i4⟩ := h
  obtain rfl : k + 1 = k2 := nI_inj (by omega) (by omega) (e.symm.trans i2)
  refine ⟨k, by omega, e11, m11, fun j hj => ?_, fun j j' hj hj' q1 q2 q3 => ?_⟩
  · obtain ⟨r1, r2⟩ := i3 j (by omega)
    refine ⟨by rw [e22, e60]; exact r1, ?_⟩
    rw [e60, e23, e61, e62, e63, e54, e9, e12]
    rcases r2 with r2 | ⟨r2, r3, i, r4, r5, r6, r7, r8, r9⟩
    · exact Or.inl r2
    · refine Or.inr ⟨r2, r3, i, r4, r5, r6, r7, h65 i r4 (fun z1 z2 => ?_) r8, r9⟩
      have := i4 j k (by omega) (by omega) r2 z1 (r5.trans z2)
      omega
  · rw [e60] at q1 q2
    rw [e62] at q3
    exact i4 j j' (by omega) (by omega) q1 q2 q3
theorem nI_or (a b : Nat) : nI a ||| nI b = nI (a ||| b) := Int32.toBitVec_inj.mp (BitVec.ofNat_or (x := a) (y := b)).symm
theorem nI_bit {p : Nat} (h : p < 31) : (1 : Int32) <<< (nI p &&& 31) = nI (2 ^ p) := by
  have : ∀ q, q < 31 → (1 : Int32) <<< (nI q &&& 31) = nI (2 ^ q) := by decide
  exact this p h
theorem P_undo : H_undo RR := by
  rintro cs ms hR
  have hX0 : RR cs (miU ms 0 0) := hR
  obtain ⟨h1, h2, h3, h4, h5, h6, h7, h8, h9, ⟨dd, hd, d1, d2⟩, h11⟩ := hR
  obtain ⟨k, hk, i1, i2, i3, i4⟩ := id h8
  have i2' : mi (miU ms 0 0) 11 = nI k := i2
  unfold f_X8_undo f_X9_undo f_X0_latestAct f_X0_latestNumber f_X0_dropLatest
  rw [i2', i1]
  by_cases q : k = 0
  · subst q
    rw [if_pos (show nI 0 ≤ 0 by decide), if_pos (show nI 0 ≤ 0 by decide), if_pos (show nI 0 ≤ 0 by decide), if_pos (show nI 0 = 0 from rfl)]
    refine ⟨-1, cs, _, ?_, rfl, hX0⟩
    rw [some_bind, some_bind, some_bind, if_neg (by decide)]
    unfold f_X8_carAt
    rw [if_pos (by decide)]
    rfl
  obtain ⟨j, rfl⟩ : ∃ j, k = j + 1 := ⟨k - 1, by omega⟩
  have q0 : ¬ nI (j + 1) = 0 := fun z => by have := nI_inj (b := 0) (by omega) (by omega) z; omega
  have q1 : ¬ nI (j + 1) ≤ 0 := nI_ge (a := 0) (by omega) (by omega)
  have q2 : ¬ (10 : Int32) < nI (j + 1) := nI_nlt (a := 10) (by omega) (by omega)
  obtain ⟨s1, s2⟩ := i3 j (by omega)
  have m11 : ∀ z, mi (miU z 11 (nI j)) 11 = nI j := fun z => rfl
  have m11' : ∀ z r i v, mi (maU (miU z 11 (nI j)) r i v) 11 = nI j := fun z r i v => rfl
  have hj10 : j < 10 := by omega
  have hj31 : j < 2 ^ 31 := by omega
  rw [if_neg q1, if_neg q1, if_neg q1, if_neg q2, if_neg q2, if_neg q0, nI_sub1 (by omega), show j + 1 - 1 = j by omega, ldI_n hj10 hj31, ldI_n hj10 hj31, some_bind, some_bind, some_bind, some_bind, some_bind]
  simp only [m11, ldI_n hj10 hj31, some_bind, s1]
  have e60 : ma (miU (miU ms 0 0) 11 (nI j)) 60 = ma ms 60 := rfl
  have e61 : ma (miU (miU ms 0 0) 11 (nI j)) 61 = ma ms 61 := rfl
  have e62 : ma (miU (miU ms 0 0) 11 (nI j)) 62 = ma ms 62 := rfl
  rw [e60, e61, e62]
  rcases s2 with ⟨s2, s3, c, hc, s4, s5⟩ | ⟨s2, s3, i, hi, s4, s5, s6, s7, cc, hcc, s8, s9⟩
  · have hRA : ∀ ms' : MS, (∃ r c v, ms' = maU (miU (miU ms 0 0) 11 (nI j)) r c v ∧ (r = 52 ∨ r = 53)) → ∀ cs', ci cs' 11 = nI j → ca cs' 22 = ca cs 22 → ca cs' 23 = ca cs 23 → RAc cs' ms' := by
      rintro ms' ⟨r, c, v, rfl, hr⟩ cs' z1 z2 z3
      rcases hr with rfl | rfl
      · exact RAc_drop h8 hk i2 z1 rfl z2 z3 rfl rfl rfl rfl rfl rfl rfl (fun i _ _ z => z)
      · exact RAc_drop h8 hk i2 z1 rfl z2 z3 rfl rfl rfl rfl rfl rfl rfl (fun i _ _ z => z)
    have hcar : ∃ a, CarAt cs ms c a ∧ CRng ms c ∧ f_X8_carAt cs (nI c) = some (some a) := by
      rcases car_cases (v1 := nI c) h5 with ⟨c', a, hc', he, hc9, hA, hG, e1, -⟩ | ⟨-, e2⟩
      · obtain rfl : c = c' := nI_inj (by omega) (by omega) he
        exact ⟨a, hA, hG, e1⟩
      · exfalso
        unfold f_X9_isCar at e2
        rw [if_neg (nI_pos (by omega))] at e2
        have : ¬ mi (miU ms 0 0) 9 ≤ nI c := fun z => by
          have z2 : nI c < mi (miU ms 0 0) 9 := s5
          rw [Int32.le_iff_toInt_le] at z
          rw [Int32.lt_iff_toInt_lt] at z2
          omega
        rw [if_neg this, may_1, b2_some, gd_t (Or.inr rfl)] at e2
        exact one_ne (Prod.mk.inj (Option.some.inj e2)).1
    obtain ⟨a, hA, hG, eA⟩ := hcar
    obtain ⟨x1, x2, x3, y0, y1, y2, y3, y4, y5, y6, y7, y8⟩ := id hA
    obtain ⟨z1, z2, z3, hG'⟩ := id hG
    have eA' : f_X8_carAt (ciU cs 11 (nI j)) (nI c) = some (some a) := eA
    have hc31 : c < 2 ^ 31 := by omega
    have hcl : a ∈ cl (ciU cs 11 (nI j)) ∧ ck (ciU cs 11 (nI j)) a = 0 := ⟨x2, x3⟩
    rcases s2 with s2 | s2
    · rw [s3, s4, s2]
      simp only [eA', some_bind, ob_some, if_neg (show ¬ (1 : Int32) = 3 by decide), if_neg (show ¬ (1 : Int32) = 2 by decide), if_pos, gd_t hcl, ixr_n hc hc31, nI_clamp hc31]
      have e60' : ma (maU (miU (miU ms 0 0) 11 (nI j)) 52 c (vp_nar .boolean 0)) 60 j = 1 := s2
      rw [m11', ldI_n hj10 hj31, e60', some_bind]
      refine ⟨1, _, _, rfl, rfl, h1, h2, h3, h4, ?_, RIt_cpU h6 x3, h7, hRA _ ⟨52, c, _, rfl, Or.inl rfl⟩ _ rfl rfl rfl, h9, ⟨dd, hd, d1, d2⟩, h11⟩
      refine RCr_set h5 hc s5 hA rfl rfl rfl rfl rfl (fun b kk hb _ => cp_ne hb) rfl rfl rfl rfl rfl rfl (fun _ _ => rfl) (fun y hy => upd_ne hy) (fun _ _ => rfl) (fun _ _ => rfl) ⟨x1, x2, x3, ?_, ?_, ?_, ?_, ?_, ?_, ?_, ?_, ?_⟩ ⟨?_, z2, z3, hG'⟩
      · exact (cp_nf (by decide)).trans y0
      · exact (cp_nf (by decide)).trans y1
      · exact (cp_nf (by decide)).trans y2
      · exact (cp_nf (by decide)).trans y3
      · exact (cp_nf (by decide)).trans y4
      · exact (cp_nf (by decide)).trans y5
      · exact cp_eq.trans (upd_eq (f := ma ms 52)).symm
      · exact (cp_nf (by decide)).trans y7
      · exact (cp_nf (by decide)).trans y8
      · show zb (upd (ma ms 52) c 0 c)
        rw [upd_eq]; exact Or.inl rfl
    · rw [s3, s4, s2]
      simp only [eA', some_bind, ob_some, if_neg (show ¬ (2 : Int32) = 3 by decide), if_neg (show ¬ (2 : Int32) = 1 by decide), if_pos, gd_t hcl, ixr_n hc hc31, nI_clamp hc31]
      have e60' : ma (maU (miU (miU ms 0 0) 11 (nI j)) 53 c (vp_nar .boolean 0)) 60 j = 2 := s2
      rw [m11', ldI_n hj10 hj31, e60', some_bind]
      refine ⟨2, _, _, rfl, rfl, h1, h2, h3, h4, ?_, RIt_cpU h6 x3, h7, hRA _ ⟨53, c, _, rfl, Or.inr rfl⟩ _ rfl rfl rfl, h9, ⟨dd, hd, d1, d2⟩, h11⟩
      refine RCr_set h5 hc s5 hA rfl rfl rfl rfl rfl (fun b kk hb _ => cp_ne hb) rfl rfl rfl rfl rfl rfl (fun _ _ => rfl) (fun _ _ => rfl) (fun y hy => upd_ne hy) (fun _ _ => rfl) ⟨x1, x2, x3, ?_, ?_, ?_, ?_, ?_, ?_, ?_, ?_, ?_⟩ ⟨z1, ?_, z3, hG'⟩
      · exact (cp_nf (by decide)).trans y0
      · exact (cp_nf (by decide)).trans y1
      · exact (cp_nf (by decide)).trans y2
      · exact (cp_nf (by decide)).trans y3
      · exact (cp_nf (by decide)).trans y4
      · exact (cp_nf (by decide)).trans y5
      · exact (cp_nf (by decide)).trans y6
      · exact cp_eq.trans (upd_eq (f := ma ms 53)).symm
      · exact (cp_nf (by decide)).trans y8
      · show zb (upd (ma ms 53) c 0 c)
        rw [upd_eq]; exact Or.inl rfl
  · obtain ⟨a, c, m, p, k', hOK⟩ := item_ok h5 h6 hi s5
    have hOKj : ItOK (ciU cs 11 (nI j)) ms i a c m p k' := hOK
    obtain ⟨s, hs, h43, mv⟩ := move_n (cs := ciU cs 11 (nI j)) (w0 := 0) (w := 3) h4 hOKj (by omega) s7 (by omega) (Or.inl (by omega))
    rw [if_pos rfl] at mv
    generalize hg : ma ms 42 (24 * m + p) = g at mv
    obtain ⟨hA, -, hc, hc9, e63, hm, e46, hk', e37, hp, e64, e1, e2, hpk⟩ := id hOK
    obtain ⟨x1, x2, x3, y0, y2, y3, y4, y5, y1⟩ := id hA
    have hi31 : i < 2 ^ 31 := by omega
    have hz : 24 * m + p < 192 := by omega
    have hz31 : 24 * m + p < 2 ^ 31 := by omega
    have hc31 : c < 2 ^ 31 := by omega
    have hs31 : s < 2 ^ 31 := by omega
    have hcar : ∃ a, CarAt cs ms c a ∧ CRng ms c ∧ f_X8_carAt cs (nI c) = some (some a) := by
      rcases car_cases (v1 := nI c) h5 with ⟨c', a, hc', he, hc9, hA, hG, e1, -⟩ | ⟨-, e2⟩
      · obtain rfl : c = c' := nI_inj (by omega) (by omega) he
        exact ⟨a, hA, hG, e1⟩
      · exfalso
        unfold f_X9_isCar at e2
        rw [if_neg (nI_pos (by omega))] at e2
        have : ¬ mi (miU ms 0 0) 9 ≤ nI c := fun z => by
          have z2 : nI c < mi (miU ms 0 0) 9 := hc9
          rw [Int32.le_iff_toInt_le] at z
          rw [Int32.lt_iff_toInt_lt] at z2
          omega
        rw [if_neg this, may_1, b2_some, gd_t (Or.inr rfl)] at e2
        exact one_ne (Prod.mk.inj (Option.some.inj e2)).1
    obtain ⟨b, hB, hG, eB⟩ := hcar
    obtain ⟨b1, b2, b3, u0, u1, u2, u3, u4, u5, u6, u7, u8⟩ := id hB
    have hab : b ≠ a := fun z => by rw [z, x3] at b3; exact absurd b3 (by decide)
    have e61i : ma ms 61 j = nI c := s6.trans e63
    have hat : f_X8_itemAt (ciU cs 11 (nI j)) (nI i) = some (some a) := by
      rcases item_cases (v1 := nI i) h5 h6 with ⟨i', a', c', m', p', k2, he, -, hO', f1, -⟩ | ⟨-, e2⟩
      · obtain rfl : i = i' := nI_inj (by omega) (by have := hO'.2.1; omega) he
        obtain rfl : a' = a := Option.some.inj (hO'.1.1.symm.trans x1)
        exact f1
      · exfalso
        unfold f_X9_isItem at e2
        rw [if_neg (nI_pos (by omega))] at e2
        have : ¬ mi (miU ms 0 0) 12 ≤ nI i := fun z => by
          have z2 : nI i < mi (miU ms 0 0) 12 := s5
          rw [Int32.le_iff_toInt_le] at z
          rw [Int32.lt_iff_toInt_lt] at z2
          omega
        rw [if_neg this, may_1, b2_some, gd_t (Or.inr rfl)] at e2
        exact one_ne (Prod.mk.inj (Option.some.inj e2)).1
    rw [s3, s4, s2, e61i]
    rw [if_pos rfl, hat, some_bind, ob_some, if_neg (by decide), if_neg (by decide)]
    unfold f_X8_putBackOn
    rw [ob_some, show f_X8_move (ciU cs 11 (nI j)) (some a) 3 = _ from mv, some_bind, gd_t ⟨x2, x3⟩]
    have hM : f_X9_takeBack (miU (miU ms 0 0) 11 (nI j)) (nI c) (nI i) = some (miU (mbU (maU (maU (maU (miU (miU ms 0 0) 11 (nI j)) 50 c (ma ms 50 c ||| (1 <<< (nI p &&& 31)))) 65 i 3) 66 i (mi ms 10)) 58 s (mb ms 58 s - g.toInt64)) 13 (mi ms 13 - 1)) := by
      unfold f_X9_takeBack
      simp only [f_X9_stuffOf, f_X9_gramsOf, f_X9_partOf, l24, nI_mul, nI_add, ixr_n hi hi31, nI_clamp hi31, ixr_n hc hc31, nI_clamp hc31, pa_1, pa_2, pa_3, pa_5 (show (63 : Nat) ≠ 65 by decide), pa_5 (show (63 : Nat) ≠ 66 by decide), pa_5 (show (63 : Nat) ≠ 50 by decide), pa_5 (show (46 : Nat) ≠ 65 by decide), pa_5 (show (46 : Nat) ≠ 66 by decide), pa_5 (show (46 : Nat) ≠ 50 by decide), pa_5 (show (64 : Nat) ≠ 65 by decide), pa_5 (show (64 : Nat) ≠ 66 by decide), pa_5 (show (64 : Nat) ≠ 50 by decide), pa_5 (show (43 : Nat) ≠ 65 by decide), pa_5 (show (43 : Nat) ≠ 66 by decide), pa_5 (show (43 : Nat) ≠ 50 by decide), pa_5 (show (42 : Nat) ≠ 65 by decide), pa_5 (show (42 : Nat) ≠ 66 by decide), pa_5 (show (42 : Nat) ≠ 50 by decide), pb_1, pb_2, pb_3, pi_1, pi_2, pi_3, pi_5 (show (10 : Nat) ≠ 0 by decide), pi_5 (show (10 : Nat) ≠ 11 by decide), pi_5 (show (13 : Nat) ≠ 0 by decide), pi_5 (show (13 : Nat) ≠ 11 by decide), ldI_n hi hi31, e63, ldI_n hc hc31, e46, e64, ldI_n hz hz31, h43, hg, ldL_n hs hs31, ixr_n hs hs31, nI_clamp hs31, some_bind]
    rw [hM, some_bind]
    have hcar2 : ∀ W x, f_X8_carAt (moved (ciU cs 11 (nI j)) a W 3 x) (cp (moved (ciU cs 11 (nI j)) a W 3 x) a 0) = some (some b) := fun W x => by
      rw [show cp (moved (ciU cs 11 (nI j)) a W 3 x) a 0 = nI c from (cp_nf (by decide)).trans ((cp_nf (by decide)).trans (y0.trans e63))]
      exact eB
    rw [hcar2, some_bind, ob_some, gd_t ⟨b2, b3⟩, some_bind, show mi (miU (mbU (maU (maU (maU (miU (miU ms 0 0) 11 (nI j)) 50 c (ma ms 50 c ||| (1 <<< (nI p &&& 31)))) 65 i 3) 66 i (mi ms 10)) 58 s (mb ms 58 s - g.toInt64)) 13 (mi ms 13 - 1)) 11 = nI j from rfl, ldI_n hj10 hj31, some_bind]
    have h54 : ma ms 54 c = 0 := by rw [← nI_inj (by omega) (by omega) (s8.symm.trans e63)]; exact s9
    have hmA : ∀ W x k, cp (moved (ciU cs 11 (nI j)) a W 3 x) b k = cp cs b k := fun W x k => (cp_ne hab).trans (cp_ne hab)
    have hm2 : ∀ W x, cp (moved (ciU cs 11 (nI j)) a W 3 x) a 2 = nI p := fun W x => (cp_nf (by decide)).trans ((cp_nf (by decide)).trans e2)
    refine ⟨3, _, _, rfl, congrArg (fun z => some (z, _)) s2, h1, h2, h3, h4, ?_, ?_, RWf_undo h7, ?_, h9, ⟨dd, hd, d1, d2⟩, h11⟩
    · obtain ⟨g1, g2, g3, m', k2, k3, o, r1, r2, r3, r4, r5, r6, r7, r8, r9⟩ := hG
      have hpk' : p < k2 := by rw [r6] at hpk; exact (nI_lt_iff (by omega) (by omega)).mp hpk
      have e50 : ∀ v, upd (ma ms 50) c v c = v := fun v => upd_eq
      refine RCr_set h5 hc hc9 hB rfl rfl rfl rfl rfl (fun b' kk hb hb0 => ?_) rfl rfl rfl rfl rfl rfl (fun y hy => upd_ne hy) (fun _ _ => rfl) (fun _ _ => rfl) (fun _ _ => rfl) ⟨b1, b2, b3, ?_, ?_, ?_, ?_, ?_, ?_, ?_, ?_, ?_⟩ ⟨g1, g2, Or.inl h54, m', k2, k3, o ||| 2 ^ p, r1, r2, r3, r4, r5, r6, r7, Nat.or_lt_two_pow r8 (Nat.pow_lt_pow_right (by omega) hpk'), ?_⟩
      · have hne : b' ≠ a := fun z => by rw [z, x3] at hb0; exact absurd hb0 (by decide)
        exact (cp_ne hb).trans ((cp_ne hne).trans (cp_ne hne))
      · exact (cp_nf (by decide)).trans ((hmA _ _ _).trans u0)
      · exact (cp_nf (by decide)).trans ((hmA _ _ _).trans u1)
      · exact (cp_nf (by decide)).trans ((hmA _ _ _).trans u2)
      · exact (cp_nf (by decide)).trans ((hmA _ _ _).trans u3)
      · exact (cp_nf (by decide)).trans ((hmA _ _ _).trans u4)
      · rw [cp_eq, hmA, hm2, u5]
        exact (e50 _).symm
      · exact (cp_nf (by decide)).trans ((hmA _ _ _).trans u6)
      · exact (cp_nf (by decide)).trans ((hmA _ _ _).trans u7)
      · exact (cp_nf (by decide)).trans ((hmA _ _ _).trans u8)
      · refine (e50 _).trans ?_
        rw [r9, nI_bit (by omega), nI_or]
    · refine RIt_cpU ?_ b3
      refine RIt_set (d := ci cs 3) (w := 3) h6 hi s5 hA (by omega) rfl rfl rfl rfl rfl (fun b k hb => ?_) ?_ ?_ ?_ ?_ ?_ rfl rfl rfl rfl rfl rfl ?_ (fun j hj => rfl) (fun z => ?_) (fun n hn c1 c2 c3 => ?_)
      · exact (cp_ne hb).trans (cp_ne hb)
      · exact (cp_nf (by decide)).trans (cp_nf (by decide))
      · exact (cp_nf (by decide)).trans (cp_nf (by decide))
      · exact (cp_nf (by decide)).trans (cp_nf (by decide))
      · exact (cp_nf (by decide)).trans cp_eq
      · exact cp_eq
      · show upd (ma ms 66) i (mi ms 10) = _
        rw [d1, d2]
      · omega
      · have c3' := c3 s7
        refine ⟨n - 1, by omega, ?_, ?_, ?_⟩
        · show ci cs 2 - 1 = _
          rw [c1, nI_sub1 (by omega)]
        · show mi ms 13 - 1 = _
          rw [c2, nI_sub1 (by omega)]
        · rw [if_pos s7, if_neg (by omega)]; omega
    · refine RAc_drop h8 hk i2 rfl rfl rfl rfl rfl rfl rfl rfl rfl rfl rfl (fun i' hi' z1 z2 => ?_)
      have hne : i' ≠ i := fun z => z1 s2 (by rw [z, s4])
      exact (upd_ne (f := ma ms 65) hne).trans z2

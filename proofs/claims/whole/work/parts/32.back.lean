/-! ===== back ===== -/
theorem back_bad {cs : CS} {ms : MS} (hR : RR cs ms) {i a c m p k' : Nat} (h : ItOK cs ms i a c m p k') (hlt : nI i < mi ms 12) (h1 : ma ms 65 i = 1) : ∃ r cs' ms', f_X9_back_84 (miU ms 0 0) (nI i) 1 = some (r, ms') ∧ f_X8_back_69 cs 1 a = some (.inl r, cs') ∧ RR cs' ms' ∧ mi ms' 0 = 0 := by
  obtain ⟨g1, g2, g3, g4, g5, g6, g7, g8, g9, ⟨dd, hd, d1, d2⟩, g11⟩ := hR
  obtain ⟨s, hs, h43, mv⟩ := move_n (w0 := 1) (w := 2) g4 h (by omega) h1 (by omega) (Or.inl (by omega))
  obtain ⟨hA, hi, hc, hc9, e63, hm, e46, hk', e37, hp, e64, e1, e2, hpk⟩ := id h
  obtain ⟨x1, x2, x3, y0, y2, y3, y4, y5, y1⟩ := id hA
  have hi31 : i < 2 ^ 31 := by omega
  have hz : 24 * m + p < 192 := by omega
  have hz31 : 24 * m + p < 2 ^ 31 := by omega
  have hc31 : c < 2 ^ 31 := by omega
  have hs31 : s < 2 ^ 31 := by omega
  rw [if_neg (by omega), if_neg (by omega)] at mv
  generalize hg : ma ms 42 (24 * m + p) = g at mv
  refine ⟨ma ms 67 i, ciU (cjU (moved cs a (mvW (ca cs 10) s 3 5 g) 2 (ci cs 2)) 0 (cj cs 0 - (cp cs a 5).toInt64)) 11 0, mbU (mbU (maU (maU (maU (mjU (miU (miU ms 0 0) 11 0) 0 (mj ms 0 - (ma ms 67 i).toInt64)) 67 i 0) 66 i (mi ms 10)) 65 i 2) 56 s (mb ms 56 s - g.toInt64)) 59 s (mb ms 59 s + g.toInt64), ?_, ?_, ⟨g1, g2, g3, g4, ?_, ?_, ?_, ⟨0, by omega, rfl, rfl, fun j hj => absurd hj (by omega), fun j j' hj => absurd hj (by omega)⟩, g9, ⟨dd, hd, d1, d2⟩, ?_⟩, rfl⟩
  · unfold f_X9_back_84 f_X9_back_139
    simp only [f_X9_stuffOf, f_X9_gramsOf, f_X9_partOf, l24, nI_mul, nI_add, ixr_n hi hi31, nI_clamp hi31, pa_1, pa_2, pa_3, pa_5 (show (63 : Nat) ≠ 65 by decide), pa_5 (show (63 : Nat) ≠ 66 by decide), pa_5 (show (63 : Nat) ≠ 67 by decide), pa_5 (show (46 : Nat) ≠ 65 by decide), pa_5 (show (46 : Nat) ≠ 66 by decide), pa_5 (show (46 : Nat) ≠ 67 by decide), pa_5 (show (64 : Nat) ≠ 65 by decide), pa_5 (show (64 : Nat) ≠ 66 by decide), pa_5 (show (64 : Nat) ≠ 67 by decide), pa_5 (show (43 : Nat) ≠ 65 by decide), pa_5 (show (43 : Nat) ≠ 66 by decide), pa_5 (show (43 : Nat) ≠ 67 by decide), pa_5 (show (42 : Nat) ≠ 65 by decide), pa_5 (show (42 : Nat) ≠ 66 by decide), pa_5 (show (42 : Nat) ≠ 67 by decide), pb_1, pb_2, pb_3, pb_5 (show (59 : Nat) ≠ 56 by decide), pi_1, pi_2, pi_3, pi_5 (show (10 : Nat) ≠ 0 by decide), pi_5 (show (10 : Nat) ≠ 11 by decide), pj_1, pj_2, ldI_n hi hi31, e63, ldI_n hc hc31, e46, e64, ldI_n hz hz31, h43, hg, ldL_n hs hs31, ixr_n hs hs31, nI_clamp hs31, some_bind, if_pos]
  · unfold f_X8_back_69 f_X8_back_81 f_X0_forget
    rw [if_pos rfl, show f_X8_move cs (some a) 2 = _ from mv, some_bind, gd_t ⟨x2, x3⟩, some_bind, gd_t ⟨x2, x3⟩, ← y5 h1]
    exact congrArg (fun z => some ((.inl z, ciU (cjU (moved cs a (mvW (ca cs 10) s 3 5 g) 2 (ci cs 2)) 0 (cj cs 0 - z.toInt64)) 11 0) : (Int32 ⊕ String) × CS)) ((cp_nf (by decide)).trans (cp_nf (by decide)))
  · have t1 : RCr (cpU cs a 3 2) ms := RCr_cpI g5 x3
    have t2 : RCr (cpU (cpU cs a 3 2) a 4 (ci cs 3)) ms := RCr_cpI t1 x3
    exact t2
  · refine RIt_set (d := ci cs 3) (w := 2) g6 hi hlt hA (by omega) rfl rfl rfl rfl rfl (fun b k hb => ?_) ?_ ?_ ?_ ?_ ?_ rfl rfl rfl rfl rfl rfl ?_ (fun j hj => ?_) (fun z => ?_) (fun n hn c1 c2 c3 => ?_)
    · exact (cp_ne hb).trans (cp_ne hb)
    · exact (cp_nf (by decide)).trans (cp_nf (by decide))
    · exact (cp_nf (by decide)).trans (cp_nf (by decide))
    · exact (cp_nf (by decide)).trans (cp_nf (by decide))
    · exact (cp_nf (by decide)).trans cp_eq
    · exact cp_eq
    · show upd (ma ms 66) i (mi ms 10) = _
      rw [d1, d2]
    · exact upd_ne hj
    · omega
    · have n0 : ¬ ma ms 65 i = 0 := by rw [h1]; decide
      refine ⟨n, hn, c1, c2, ?_⟩
      rw [if_neg n0, if_neg (by omega)]
  · exact RWf_bad g7
  · show cj cs 0 - (cp cs a 5).toInt64 = mj ms 0 - (ma ms 67 i).toInt64
    rw [y5 h1, show cj cs 0 = mj ms 0 from g11]
theorem back_shelf {cs : CS} {ms : MS} (hR : RR cs ms) {i a c m p k' : Nat} (h : ItOK cs ms i a c m p k') (hlt : nI i < mi ms 12) (h1 : ma ms 65 i = 1) {n0 : Nat} (hn0 : n0 < 60) (hn1 : ci cs 2 = nI n0) : ∃ r cs' ms', f_X9_back_84 (miU ms 0 0) (nI i) 0 = some (r, ms') ∧ f_X8_back_69 cs 0 a = some (.inl r, cs') ∧ RR cs' ms' ∧ mi ms' 0 = 0 := by
  obtain ⟨g1, g2, g3, g4, g5, g6, g7, g8, g9, ⟨dd, hd, d1, d2⟩, g11⟩ := hR
  obtain ⟨s, hs, h43, mv⟩ := move_n (w0 := 1) (w := 0) g4 h (by omega) h1 (by omega) (Or.inr (by omega))
  obtain ⟨hA, hi, hc, hc9, e63, hm, e46, hk', e37, hp, e64, e1, e2, hpk⟩ := id h
  obtain ⟨x1, x2, x3, y0, y2, y3, y4, y5, y1⟩ := id hA
  have hi31 : i < 2 ^ 31 := by omega
  have hz : 24 * m + p < 192 := by omega
  have hz31 : 24 * m + p < 2 ^ 31 := by omega
  have hc31 : c < 2 ^ 31 := by omega
  have hs31 : s < 2 ^ 31 := by omega
  rw [if_neg (by omega), if_pos rfl] at mv
  generalize hg : ma ms 42 (24 * m + p) = g at mv
  refine ⟨ma ms 67 i, ciU (cjU (moved cs a (mvW (ca cs 10) s 3 2 g) 0 (ci cs 2 + 1)) 0 (cj cs 0 - (cp cs a 5).toInt64)) 11 0, miU (mbU (mbU (maU (maU (maU (mjU (miU (miU ms 0 0) 11 0) 0 (mj ms 0 - (ma ms 67 i).toInt64)) 67 i 0) 66 i (mi ms 10)) 65 i 0) 56 s (mb ms 56 s - g.toInt64)) 58 s (mb ms 58 s + g.toInt64)) 13 (mi ms 13 + 1), ?_, ?_, ⟨g1, g2, g3, g4, ?_, ?_, ?_, ⟨0, by omega, rfl, rfl, fun j hj => absurd hj (by omega), fun j j' hj => absurd hj (by omega)⟩, g9, ⟨dd, hd, d1, d2⟩, ?_⟩, rfl⟩
  · unfold f_X9_back_84 f_X9_back_139
    simp only [f_X9_stuffOf, f_X9_gramsOf, f_X9_partOf, l24, nI_mul, nI_add, ixr_n hi hi31, nI_clamp hi31, pa_1, pa_2, pa_3, pa_5 (show (63 : Nat) ≠ 65 by decide), pa_5 (show (63 : Nat) ≠ 66 by decide), pa_5 (show (63 : Nat) ≠ 67 by decide), pa_5 (show (46 : Nat) ≠ 65 by decide), pa_5 (show (46 : Nat) ≠ 66 by decide), pa_5 (show (46 : Nat) ≠ 67 by decide), pa_5 (show (64 : Nat) ≠ 65 by decide), pa_5 (show (64 : Nat) ≠ 66 by decide), pa_5 (show (64 : Nat) ≠ 67 by decide), pa_5 (show (43 : Nat) ≠ 65 by decide), pa_5 (show (43 : Nat) ≠ 66 by decide), pa_5 (show (43 : Nat) ≠ 67 by decide), pa_5 (show (42 : Nat) ≠ 65 by decide), pa_5 (show (42 : Nat) ≠ 66 by decide), pa_5 (show (42 : Nat) ≠ 67 by decide), pb_1, pb_2, pb_3, pb_5 (show (58 : Nat) ≠ 56 by decide), pi_1, pi_2, pi_3, pi_5 (show (10 : Nat) ≠ 0 by decide), pi_5 (show (10 : Nat) ≠ 11 by decide), pi_5 (show (13 : Nat) ≠ 0 by decide), pi_5 (show (13 : Nat) ≠ 11 by decide), pj_1, pj_2, ldI_n hi hi31, e63, ldI_n hc hc31, e46, e64, ldI_n hz hz31, h43, hg, ldL_n hs hs31, ixr_n hs hs31, nI_clamp hs31, some_bind, if_neg (show ¬ (0 : Int32) = 1 by decide)]
  · unfold f_X8_back_69 f_X8_back_81 f_X0_forget
    rw [if_neg (by decide), show f_X8_move cs (some a) 0 = _ from mv, some_bind, gd_t ⟨x2, x3⟩, some_bind, gd_t ⟨x2, x3⟩, ← y5 h1]
    exact congrArg (fun z => some ((.inl z, ciU (cjU (moved cs a (mvW (ca cs 10) s 3 2 g) 0 (ci cs 2 + 1)) 0 (cj cs 0 - z.toInt64)) 11 0) : (Int32 ⊕ String) × CS)) ((cp_nf (by decide)).trans (cp_nf (by decide)))
  · have t1 : RCr (cpU cs a 3 0) ms := RCr_cpI g5 x3
    have t2 : RCr (cpU (cpU cs a 3 0) a 4 (ci cs 3)) ms := RCr_cpI t1 x3
    exact t2
  · refine RIt_set (d := ci cs 3) (w := 0) g6 hi hlt hA (by omega) rfl rfl rfl rfl rfl (fun b k hb => ?_) ?_ ?_ ?_ ?_ ?_ rfl rfl rfl rfl rfl rfl ?_ (fun j hj => ?_) (fun z => ?_) (fun n hn c1 c2 c3 => ?_)
    · exact (cp_ne hb).trans (cp_ne hb)
    · exact (cp_nf (by decide)).trans (cp_nf (by decide))
    · exact (cp_nf (by decide)).trans (cp_nf (by decide))
    · exact (cp_nf (by decide)).trans (cp_nf (by decide))
    · exact (cp_nf (by decide)).trans cp_eq
    · exact cp_eq
    · show upd (ma ms 66) i (mi ms 10) = _
      rw [d1, d2]
    · exact upd_ne hj
    · omega
    · have z0 : ¬ ma ms 65 i = 0 := by rw [h1]; decide
      obtain rfl : n0 = n := nI_inj (by omega) (by omega) (hn1.symm.trans c1)
      refine ⟨n0 + 1, by omega, ?_, ?_, ?_⟩
      · show ci cs 2 + 1 = _
        rw [c1, nI_1]
      · show mi ms 13 + 1 = _
        rw [c2, nI_1]
      · rw [if_neg z0, if_pos rfl]
  · exact RWf_back g7
  · show cj cs 0 - (cp cs a 5).toInt64 = mj ms 0 - (ma ms 67 i).toInt64
    rw [y5 h1, show cj cs 0 = mj ms 0 from g11]
theorem P_back : H_back RR := by
  rintro cs ms v1 v2 hR
  have hX0 : RR cs (miU ms 0 0) := hR
  have hX1 : RR cs (miU ms 0 1) := hR
  have hX2 : RR cs (miU ms 0 2) := hR
  obtain ⟨-, -, -, h4, h5, h6, -, -, -, ⟨dd, hd, d1, d2⟩, -⟩ := id hR
  unfold f_X8_back f_X9_back f_X9_back_23 f_X9_back_28
  rcases item_cases (v1 := v1) h5 h6 with ⟨i, a, c, m, p, k', rfl, hlt, hOK, -, e1, e2⟩ | ⟨e1, e2⟩
  · obtain ⟨⟨-, x2, x3, y0, y2, y3, y4, -⟩, hi, hc, -, -, hm, -, hk', e37, hp, -⟩ := id hOK
    obtain ⟨nn, -, -, -, -, -, n60, c8, c9⟩ := id h6
    have hi31 : i < 2 ^ 31 := by omega
    have hcl : a ∈ cl cs ∧ ck cs a = 1 := ⟨x2, x3⟩
    have e65 : ma (miU ms 0 0) 65 = ma ms 65 := rfl
    have e66 : ma (miU ms 0 0) 66 = ma ms 66 := rfl
    have m10 : mi (miU ms 0 0) 10 = nI dd := d2
    have m13 : mi (miU ms 0 0) 13 = mi ms 13 := rfl
    rw [e1, e2, b2_some, if_neg one_ne, bx_inl, ob_some]
    by_cases qv : v2 = 0 ∨ v2 = 1
    · rw [pick qv, pick qv, may_1, b2_some, if_neg one_ne, ldI_n hi hi31, some_bind, e65]
      unfold f_X8_back_26
      rw [gd_t hcl, y3]
      by_cases q0 : ma ms 65 i = 1
      · rw [if_pos q0, if_pos q0, ldI_n hi hi31, some_bind, e66, y4, d1, m10]
        by_cases q3 : nI dd - ma ms 66 i ≤ 30
        · rw [if_pos q3, if_pos q3]
          by_cases q4 : v2 = 0
          · subst q4
            rw [if_pos rfl, if_pos rfl, m13, c8, c9]
            by_cases q5 : cnt0 (ma ms 65) nn < 60
            · obtain ⟨r, cs', ms', s1, s2, s3, s4⟩ := back_shelf hR hOK hlt q0 q5 c8
              rw [if_pos (show nI _ < (60 : Int32) from nI_lt (b := 60) q5 (by omega)), if_neg (show ¬ nI _ = (60 : Int32) from fun z => by have := nI_inj (b := 60) (by omega) (by omega) z; omega)]
              exact ⟨_, _, s1, _, _, s2, agr_l s4 s3⟩
            · have q6 : cnt0 (ma ms 65) nn = 60 := by omega
              rw [q6, if_neg (show ¬ nI 60 < (60 : Int32) by decide), if_pos (show nI 60 = (60 : Int32) from rfl)]
              exact ⟨_, _, rfl, _, _, rfl, agr_l rfl hX0⟩
          · obtain rfl : v2 = 1 := qv.resolve_left q4
            obtain ⟨r, cs', ms', s1, s2, s3, s4⟩ := back_bad hR hOK hlt q0
            rw [if_neg q4, if_neg q4]
            exact ⟨_, _, s1, _, _, s2, agr_l s4 s3⟩
        · rw [if_neg q3, if_neg q3]
          exact ⟨_, _, rfl, _, _, rfl, agr_l rfl hX0⟩
      · rw [if_neg q0, if_neg q0]
        exact ⟨_, _, rfl, _, _, rfl, agr_l rfl hX0⟩
    · rw [pick_no qv, pick_no qv, may_0 (t := 0) (by decide), b2_some, if_pos rfl]
      exact ⟨_, _, rfl, _, _, rfl, agr_r rfl (by simp) hX2⟩
  · rw [e1, e2, b2_some, if_pos rfl, bx_inr]
    exact ⟨_, _, rfl, _, _, rfl, agr_r rfl (by simp) hX1⟩

/-! ===== row, put, tear ===== -/
theorem slot_len {s k : Nat} (hs : s < 8) (hk : k < 16) : 16 * s + k < 128 := by omega
theorem cat_r {r s k : Nat} (hr : r = 16 * s + k) (hk : k < 16) : r / 16 = s := by omega
theorem P_row : H_row RR := by
  rintro cs ms v1 v2 v3 ⟨⟨n, hn, h1, h2, hw, hr, hv⟩, hX⟩
  unfold f_X9_row f_X8_row
  rcases slot_cases (v1 := v1) (v2 := v2) hn h1 h2 with ⟨s, k, hs, hk, rfl, rfl, e1, e2⟩ | ⟨e1, e2⟩
  · have hrr : 16 * s + k < 128 := by omega
    rw [e1, e2, b2_some, if_neg one_ne, bx_inl]
    by_cases q1 : v3 < 0
    · rw [if_pos q1, if_pos q1]
      exact ⟨_, _, rfl, _, _, rfl, agr_l rfl ⟨⟨n, hn, h1, h2, hw, hr, hv⟩, hX⟩⟩
    by_cases q2 : v3 ≤ 12
    · obtain ⟨j, hj, rfl⟩ := nI_of q1
      have hj12 : j ≤ 12 := by
        rw [l12] at q2
        exact (nI_le_iff hj (by omega)).mp q2
      rw [if_neg q1, if_pos q2, if_neg q1, if_pos q2, l16, nI_mul, nI_add, ixr_n hrr (by omega), nI_clamp (by omega)]
      obtain ⟨g', a1, a2, a3⟩ := row_loop (r := 16 * s + k) (v := nI j) (s := maU (miU ms 0 0) 28 (16 * s + k) (nI j)) hrr 1000 0 (mb ms 29) (by omega) (by omega)
      have hm : maU (miU ms 0 0) 28 (16 * s + k) (nI j) = mbS (maU (miU ms 0 0) 28 (16 * s + k) (nI j)) 29 (mb ms 29) := (mbS_id (s := maU (miU ms 0 0) 28 (16 * s + k) (nI j)) (k := 29)).symm
      rw [show f_X9_row_48 1000 (maU (miU ms 0 0) 28 (16 * s + k) (nI j)) (nI j) (nI (16 * s + k)) 0 = _ from (congrArg (fun z => f_X9_row_48 1000 z (nI j) (nI (16 * s + k)) (nI 0)) hm).trans a1]
      unfold f_X7_renew
      rw [if_neg (nI_pos (by omega)), l128, if_pos (nI_lt hrr (by omega)), ixr_n hrr (by omega), nI_clamp (by omega)]
      obtain ⟨g, b1, b2, b3⟩ := renew_loop (r := 16 * s + k) (k := j) (s := caU cs 13 (16 * s + k) (nI j)) hrr hj12 (by show upd (ca cs 13) _ _ _ = _; exact upd_eq) 1000 0 (cb cs 14) (by omega) (by omega)
      have hc : caU cs 13 (16 * s + k) (nI j) = cbS (caU cs 13 (16 * s + k) (nI j)) 14 (cb cs 14) := (cbS_id (s := caU cs 13 (16 * s + k) (nI j)) (k := 14)).symm
      rw [show f_X7_renew_23 1000 (caU cs 13 (16 * s + k) (nI j)) (nI (16 * s + k)) (nI j) 0 = _ from (congrArg (fun z => f_X7_renew_23 1000 z (nI (16 * s + k)) (nI j) (nI 0)) hc).trans b1, some_bind]
      refine ⟨_, _, rfl, _, _, rfl, agr_l rfl ⟨⟨n, hn, h1, h2, hw, fun r hr1 => ?_, fun r i kk hr1 hi hk1 he => ?_⟩, hX⟩⟩
      · show upd (ca cs 13) _ _ r = upd (ma ms 28) _ _ r ∧ (upd (ca cs 13) _ _ r = -1 ∨ ∃ kk, kk ≤ 12 ∧ upd (ca cs 13) _ _ r = nI kk)
        by_cases e : r = 16 * s + k
        · rw [e, upd_eq, upd_eq]
          exact ⟨rfl, Or.inr ⟨j, hj12, rfl⟩⟩
        · rw [upd_ne e, upd_ne e]
          exact hr r hr1
      · replace he : upd (ca cs 13) (16 * s + k) (nI j) r = nI kk := he
        show g (12 * r + i) = g' (12 * r + i)
        by_cases e : r = 16 * s + k
        · rw [e, upd_eq] at he
          have hkk : j = kk := nI_inj (by omega) (by omega) he
          rw [e, b2 i (Nat.zero_le _) (by omega), a2 i (Nat.zero_le _) (by omega)]
        · rw [upd_ne e] at he
          rw [b3 _ (fun z _ hz => by omega), a3 _ (fun z _ hz => by omega)]
          exact hv r i kk hr1 hi hk1 he
    · rw [if_neg q1, if_neg q2, if_neg q1, if_neg q2]
      exact ⟨_, _, rfl, _, _, rfl, agr_l rfl ⟨⟨n, hn, h1, h2, hw, hr, hv⟩, hX⟩⟩
  · rw [e1, e2 _ one_ne, b2_some, if_pos rfl, bx_inr]
    exact ⟨_, _, rfl, _, _, rfl, agr_r rfl (by simp) ⟨⟨n, hn, h1, h2, hw, hr, hv⟩, hX⟩⟩
theorem P_tear : H_tear RR := by
  rintro cs ms v1 v2 ⟨⟨n, hn, h1, h2, hw, hr, hv⟩, hX⟩
  unfold f_X9_tear f_X8_tear
  rcases slot_cases (v1 := v1) (v2 := v2) hn h1 h2 with ⟨s, k, hs, hk, rfl, rfl, e1, e2⟩ | ⟨e1, e2⟩
  · have hrr : 16 * s + k < 128 := by omega
    obtain ⟨r1, r2⟩ := hr _ hrr
    rw [e1, e2, b2_some, if_neg one_ne, bx_inl, l16, nI_mul, nI_add, ldI_n hrr (by omega), some_bind, lengthAt_n hrr, some_bind, ixr_n hrr (by omega), ixr_n hrr (by omega), nI_clamp (by omega)]
    have r1' : ma (miU ms 0 0) 28 (16 * s + k) = ca cs 13 (16 * s + k) := r1.symm
    rw [r1']
    by_cases q : ca cs 13 (16 * s + k) = -1
    · rw [if_pos q, if_pos q]
      refine ⟨_, _, rfl, _, _, rfl, agr_l rfl ⟨⟨n, hn, h1, h2, hw, fun r hr1 => ?_, hv⟩, hX⟩⟩
      show ca cs 13 r = upd (ma ms 28) _ _ r ∧ _
      by_cases e : r = 16 * s + k
      · rw [e, upd_eq]; exact ⟨q, Or.inl q⟩
      · rw [upd_ne e]; exact hr r hr1
    · rw [if_neg q, if_neg q]
      unfold f_X7_renew
      rw [if_neg (nI_pos (by omega)), l128, if_pos (nI_lt hrr (by omega)), ixr_n hrr (by omega), nI_clamp (by omega)]
      rw [show f_X7_renew_23 1000 (caU cs 13 (16 * s + k) (-1)) (nI (16 * s + k)) (-1) 0 = some (caU cs 13 (16 * s + k) (-1)) from if_pos (by decide), some_bind]
      refine ⟨_, _, rfl, _, _, rfl, agr_l rfl ⟨⟨n, hn, h1, h2, hw, fun r hr1 => ?_, fun r i kk hr1 hi hk1 he => ?_⟩, hX⟩⟩
      · show upd (ca cs 13) _ _ r = upd (ma ms 28) _ _ r ∧ (upd (ca cs 13) _ _ r = -1 ∨ ∃ kk, kk ≤ 12 ∧ upd (ca cs 13) _ _ r = nI kk)
        by_cases e : r = 16 * s + k
        · rw [e, upd_eq, upd_eq]
          exact ⟨rfl, Or.inl rfl⟩
        · rw [upd_ne e, upd_ne e]
          exact hr r hr1
      · replace he : upd (ca cs 13) (16 * s + k) (-1) r = nI kk := he
        by_cases e : r = 16 * s + k
        · rw [e, upd_eq] at he
          exact absurd he.symm (nI_ne_neg (by omega))
        · rw [upd_ne e] at he
          exact hv r i kk hr1 hi hk1 he
  · rw [e1, e2 _ one_ne, b2_some, if_pos rfl, bx_inr]
    exact ⟨_, _, rfl, _, _, rfl, agr_r rfl (by simp) ⟨⟨n, hn, h1, h2, hw, hr, hv⟩, hX⟩⟩
theorem P_put : H_put RR := by
  rintro cs ms v1 v2 v3 v4 ⟨⟨n, hn, h1, h2, hw, hr, hv⟩, hX⟩
  unfold f_X9_put f_X8_put
  rcases slot_cases (v1 := v1) (v2 := v2) hn h1 h2 with ⟨s, k, hs, hk, rfl, rfl, e1, e2⟩ | ⟨e1, e2⟩
  · have hrr : 16 * s + k < 128 := by omega
    obtain ⟨r1, r2⟩ := hr _ hrr
    have r1' : ma (miU ms 0 0) 28 (16 * s + k) = ca cs 13 (16 * s + k) := r1.symm
    have w1' : ma (miU ms 0 0) 27 s = ca cs 12 s := (hw s hs).symm
    rw [e1, e2, b2_some, if_neg one_ne, bx_inl, l16, nI_mul, nI_add, ldI_n hrr (by omega), some_bind, lengthAt_n hrr, some_bind, r1']
    rcases r2 with q | ⟨len, hlen, q⟩
    · rw [q, if_pos rfl, some_bind, if_pos rfl]
      exact ⟨_, _, rfl, _, _, rfl, agr_l rfl ⟨⟨n, hn, h1, h2, hw, hr, hv⟩, hX⟩⟩
    · rw [q, if_neg (nI_ne_neg (k := len) (by omega)), some_bind, if_neg (nI_ne_neg (k := len) (by omega))]
      by_cases q1 : v3 < 0
      · have hwr : f_X7_write cs (nI (16 * s + k)) v3 v4 = some (0, cs) := by
          unfold f_X7_write f_X7_placeOf
          rw [if_pos q1, some_bind, if_pos rfl]
        rw [if_pos q1, hwr, b2_some, if_pos rfl]
        exact ⟨_, _, rfl, _, _, rfl, agr_l rfl ⟨⟨n, hn, h1, h2, hw, hr, hv⟩, hX⟩⟩
      obtain ⟨i, hi, rfl⟩ := nI_of q1
      rw [if_neg q1, write_n hrr hlen q hi]
      by_cases q2 : i < len
      · rw [if_pos (nI_lt q2 (by omega)), if_pos q2, ldI_n (by omega) (by omega), some_bind, some_bind, l12, nI_mul, nI_add, ixr_n (by omega) (by omega), ixr_n (by omega) (by omega), ixr_n (by omega) (by omega), nI_clamp (by omega), b2_some, if_neg one_ne, w1', cat_r rfl hk]
        refine ⟨1, mbU (miU ms 0 0) 29 (12 * (16 * s + k) + i) (cutW (ca cs 12 s) v4), ?_, _, _, rfl, agr_l rfl ⟨⟨n, hn, h1, h2, hw, hr, fun r j kk hr1 hj hk1 he => ?_⟩, hX⟩⟩
        · unfold cutW
          split
          · rfl
          · split <;> rfl
        · show vp_updL (cb cs 14) _ _ _ = vp_updL (mb ms 29) _ _ _
          by_cases e : 12 * r + j = 12 * (16 * s + k) + i
          · rw [e, updL_eq, updL_eq]
          · rw [updL_ne e, updL_ne e]
            exact hv r j kk hr1 hj hk1 he
      · rw [if_neg (nI_nlt (by omega) (by omega)), if_neg q2, b2_some, if_pos rfl]
        exact ⟨_, _, rfl, _, _, rfl, agr_l rfl ⟨⟨n, hn, h1, h2, hw, hr, hv⟩, hX⟩⟩
  · rw [e1, e2 _ one_ne, b2_some, if_pos rfl, bx_inr]
    exact ⟨_, _, rfl, _, _, rfl, agr_r rfl (by simp) ⟨⟨n, hn, h1, h2, hw, hr, hv⟩, hX⟩⟩

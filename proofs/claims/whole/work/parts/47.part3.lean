/-! ===== part: the call ===== -/
theorem part_tail {cs : CS} {ms : MS} (hR : RR cs ms) {m r k : Nat} (hm : m < 8) (hrow : RowAt cs ms r k) (hk7 : 7 ≤ k) : ∃ v cs' ms', f_X9_part_78 1000 (miU ms 0 0) (nI m) (nI r) (nI k) 0 = some (v, ms') ∧ ((f_X8_hasNumberBeyond cs (nI m) (nI r)).bind fun r12 => if r12 = 0 then ((f_X8_breaksShellRule cs (nI m) (nI r)).bind fun r14 => if r14 = 0 then ((f_X6_partsOf cs (nI m)).bind fun r16 => if r16 < (24 : Int32) then (b2 (f_X8_addPart cs (nI m) (nI r)) fun r19 cs18 => some ((.inl r19, cs18) : (Int32 ⊕ String) × CS)) else (some (.inl (-5 : Int32), cs))) else (some (.inl (-4 : Int32), cs))) else (some (.inl (-3 : Int32), cs))) = some (.inl v, cs') ∧ RR cs' ms' ∧ mi ms' 0 = 0 := by
  have hX0 : RR cs (miU ms 0 0) := hR
  obtain ⟨h1, h2, h3, h4, h5, h6, h7, h8, h9, h10, h11⟩ := id hR
  obtain ⟨n, hn, e20, e37, -⟩ := h4 m hm
  obtain ⟨M, hM, e5, e3, -⟩ := id h3
  obtain ⟨hr, hk, e13, hv⟩ := id hrow
  have B8 := beyond8 (ms := ms) hm hn hM e20 e5 hrow 1000 0 (by omega) (by omega)
  have B9 : ((∀ j, 0 ≤ j → j < 8 → okN ms r k n M j) ∧ ∃ kk : MS → Int32 → Int32 → Int32 → Int32 → Option (Int32 × MS), f_X9_part_78 1000 (miU ms 0 0) (nI m) (nI r) (nI k) (nI 0) = f_X9_part_148 kk (miU ms 0 0) (nI m) (nI r) (nI k)) ∨ ((∃ j, 0 ≤ j ∧ j < 8 ∧ ¬ okN ms r k n M j) ∧ f_X9_part_78 1000 (miU ms 0 0) (nI m) (nI r) (nI k) (nI 0) = some (-3, miU ms 0 0)) := beyond9 (ms := miU ms 0 0) hm hn hM e37 e3 hr hk7 hk 1000 0 (by omega) (by omega)
  unfold f_X8_hasNumberBeyond
  rcases B8 with ⟨a1, a2⟩ | ⟨⟨j, j1, j2, j3⟩, a2⟩
  · rcases B9 with ⟨-, kk, b2'⟩ | ⟨⟨j, j1, j2, j3⟩, -⟩
    · rw [show f_X8_hasNumberBeyond_2 1000 cs (nI m) (nI r) 0 = some 0 from a2, some_bind, if_pos rfl, show f_X9_part_78 1000 (miU ms 0 0) (nI m) (nI r) (nI k) 0 = f_X9_part_148 kk (miU ms 0 0) (nI m) (nI r) (nI k) from b2']
      have hok : ∀ j, j < 8 → okN ms r k n M j := fun j hj => a1 j (by omega) hj
      have k0 := hok 0 (by omega)
      have k2 := hok 2 (by omega)
      unfold okN at k0 k2
      simp [plo, phi] at k0 k2
      obtain ⟨x0, x01, x02⟩ := n64 k0.1 (by omega)
      have s0 : f_X8_rowSays cs (nI r) 0 = some (rowX ms r k 0) := says_row hrow (w := 0) (by omega)
      have s2 : f_X8_rowSays cs (nI r) 2 = some (rowX ms r k 2) := says_row hrow (w := 2) (by omega)
      have e148 : f_X9_part_148 kk (miU ms 0 0) (nI m) (nI r) (nI k) = f_X9_part_182 1000 (miU ms 0 0) (nI m) (nI r) (nI k) (rowX ms r k 0).toInt32 (rowX ms r k 2).toInt32 0 0 := by
        unfold f_X9_part_148
        have L0 : ldL (mb (miU ms 0 0) 29) 1536 (nI (12 * r)) = some (rowX ms r k 0) := by
          rw [ldL_n (by omega) (by omega)]
          unfold rowX
          rw [if_pos (by omega)]
          rfl
        have L2 : ldL (mb (miU ms 0 0) 29) 1536 (nI (12 * r + 2)) = some (rowX ms r k 2) := by
          rw [ldL_n (by omega) (by omega)]
          unfold rowX
          rw [if_pos (by omega)]
          rfl
        rw [l12, nI_mul, L0, some_bind, show nI (12 * r) + 2 = nI (12 * r + 2) from nI_add _ 2, L2, some_bind]
      have x5 : (lg_cmp (rowX ms r k 0) 5 = 0) ↔ (rowX ms r k 0).toInt32 = 5 := by
        rw [lgc_eq, x02]
        constructor
        · intro z
          have : (rowX ms r k 0).toInt = 5 := by rw [z]; rfl
          have : x0 = 5 := by omega
          rw [this]; rfl
        · intro z
          have z2 := nI_inj (b := 5) (by omega) (by omega) z
          apply Int64.toInt_inj.mp
          show (rowX ms r k 0).toInt = 5
          omega
      have fin : ∀ (K : MS → Int32 → Int32 → Int32 → Int32 → Int32 → Int32 → Int32 → Option (Int32 × MS)), ∃ v cs' ms', f_X9_part_263 K (miU ms 0 0) (nI m) (nI r) (nI k) (rowX ms r k 0).toInt32 (rowX ms r k 2).toInt32 = some (v, ms') ∧ ((f_X6_partsOf cs (nI m)).bind fun r16 => if r16 < (24 : Int32) then (b2 (f_X8_addPart cs (nI m) (nI r)) fun r19 cs18 => some ((.inl r19, cs18) : (Int32 ⊕ String) × CS)) else (some (.inl (-5 : Int32), cs))) = some (.inl v, cs') ∧ RR cs' ms' ∧ mi ms' 0 = 0 := by
        intro K
        rw [parts_n hm, some_bind, e20]
        by_cases n24 : n < 24
        · have p9 := put9 hm n24 e37 hr hk7 hk K
          rw [if_pos (show nI n < (24 : Int32) from nI_lt (b := 24) n24 (by omega)), p9]
          have hrow' : RowAt (caU cs 20 m (nI (n + 1))) ms r k := hrow
          obtain ⟨G', g1, g2, g3⟩ := store_loop (cs := caU cs 20 m (nI (n + 1))) (ms := ms) (r := r) (k := k) hm n24 upd_eq hrow' 1000 0 (ca cs 21) (by omega) (by omega)
          have eid : caS (caU cs 20 m (nI (n + 1))) 21 (ca cs 21) = caU cs 20 m (nI (n + 1)) := caS_id (s := caU cs 20 m (nI (n + 1))) (k := 21)
          rw [eid] at g1
          have eadd : f_X8_addPart cs (nI m) (nI r) = some (nI n, caS (caU cs 20 m (nI (n + 1))) 21 G') := by
            unfold f_X8_addPart f_X6_add
            rw [parts_n hm, some_bind, e20, if_neg (nI_pos (by omega)), if_neg (show ¬ (8 : Int32) ≤ nI m from nI_ge (b := 8) (by omega) (by omega)), if_neg (show ¬ (24 : Int32) ≤ nI n from nI_ge (b := 24) (by omega) (by omega)), ixr_n hm (by omega), nI_clamp (by omega), nI_1, b2_some]
            exact g1
          rw [eadd, b2_some]
          refine ⟨nI n, _, _, rfl, rfl, ⟨h1, h2, h3, ?_, ?_, h6, h7, h8, h9, h10, h11⟩, rfl⟩
          · refine RMd_part h4 hm n24 hM e3 e20 e37 hok rfl rfl rfl (fun j hj => g2 j (by omega) hj) (fun z hz => g3 z (fun j _ hj => hz j hj)) (fun j hj => ?_)
            rcases (show j = 0 ∨ j = 1 ∨ j = 2 ∨ j = 3 ∨ j = 4 ∨ j = 5 ∨ j = 6 ∨ j = 7 by omega) with rfl | rfl | rfl | rfl | rfl | rfl | rfl | rfl <;> rfl
          · have t : RCr cs (ptM ms m n r k) := by
              refine RCr_part h5 hm n24 e37 rfl rfl (fun j a b => ?_)
              rcases (show j = 46 ∨ j = 47 ∨ j = 48 ∨ j = 49 ∨ j = 50 ∨ j = 51 ∨ j = 52 ∨ j = 53 ∨ j = 54 by omega) with rfl | rfl | rfl | rfl | rfl | rfl | rfl | rfl | rfl <;> rfl
            exact t
        · have : n = 24 := by omega
          subst this
          rw [if_neg (show ¬ nI 24 < (24 : Int32) by decide)]
          have p9 : f_X9_part_263 K (miU ms 0 0) (nI m) (nI r) (nI k) (rowX ms r k 0).toInt32 (rowX ms r k 2).toInt32 = some (-5, miU ms 0 0) := by
            unfold f_X9_part_263
            rw [ldI_n hm (by omega), some_bind, if_pos (show ma (miU ms 0 0) 37 m = 24 from e37)]
          rw [p9]
          exact ⟨_, _, _, rfl, rfl, hX0, rfl⟩
      have S8 := shell8 h4 hm hn e20 e37 1000 0 (by omega) (by omega)
      have S9 := shell9 (ms := miU ms 0 0) hm hn e37 (nI r) (nI k) (rowX ms r k 0).toInt32 (rowX ms r k 2).toInt32 1000 0 (by omega) (by omega)
      unfold f_X8_breaksShellRule f_X6_hasShell
      rw [e148, s0, some_bind, s2, some_bind]
      have e9a : ∀ x, f_X9_part_182 1000 (miU ms 0 0) (nI m) (nI r) (nI k) (rowX ms r k 0).toInt32 (rowX ms r k 2).toInt32 0 (nI 0) = x → f_X9_part_182 1000 (miU ms 0 0) (nI m) (nI r) (nI k) (rowX ms r k 0).toInt32 (rowX ms r k 2).toInt32 0 0 = x := fun x hx => hx
      have tail : ∀ (K : MS → Int32 → Int32 → Int32 → Int32 → Int32 → Int32 → Int32 → Option (Int32 × MS)), ∃ v cs' ms', (if (rowX ms r k 2).toInt32 = (-1 : Int32) then (f_X9_part_263 K (miU ms 0 0) (nI m) (nI r) (nI k) (rowX ms r k 0).toInt32 (rowX ms r k 2).toInt32) else ((ldI (ma (miU ms 0 0) 38) 192 (((24 : Int32) * (nI m)) + (rowX ms r k 2).toInt32)).bind fun q54 => if q54 = (5 : Int32) then (some ((-4 : Int32), (miU ms 0 0))) else (f_X9_part_263 K (miU ms 0 0) (nI m) (nI r) (nI k) (rowX ms r k 0).toInt32 (rowX ms r k 2).toInt32))) = some (v, ms') ∧ (((f_X6_factOf cs (nI m) (rowX ms r k 2).toInt32 (0 : Int32)).bind fun r4 => if r4 = (5 : Int32) then (some (1 : Int32)) else (some (0 : Int32))).bind fun r14 => if r14 = 0 then ((f_X6_partsOf cs (nI m)).bind fun r16 => if r16 < (24 : Int32) then (b2 (f_X8_addPart cs (nI m) (nI r)) fun r19 cs18 => some ((.inl r19, cs18) : (Int32 ⊕ String) × CS)) else (some (.inl (-5 : Int32), cs))) else (some (.inl (-4 : Int32), cs))) = some (.inl v, cs') ∧ RR cs' ms' ∧ mi ms' 0 = 0 := by
        intro K
        by_cases y : (rowX ms r k 2).toInt = -1
        · have y2 := n64m y
          obtain ⟨v, cs', ms', f1, f2, f3, f4⟩ := fin K
          rw [if_pos y2, f1, y2, fact_neg, some_bind, if_neg (by decide), some_bind, if_pos rfl, f2]
          exact ⟨_, _, _, rfl, rfl, f3, f4⟩
        · obtain ⟨p, p1, p2⟩ := n64 (x := rowX ms r k 2) (by omega) (by omega)
          have hpn : p < n := by omega
          obtain ⟨f0, -⟩ := fact_at h4 hm hn e37 hpn
          obtain ⟨v, cs', ms', f1, f2, f3, f4⟩ := fin K
          rw [p2] at f1 ⊢
          rw [if_neg (nI_ne_neg (by omega)), l24, nI_mul, nI_add, ldI_n (by omega) (by omega), some_bind, f0, some_bind, show ma (miU ms 0 0) 38 = ma ms 38 from rfl]
          by_cases s : ma ms 38 (24 * m + p) = 5
          · rw [if_pos s, if_pos s, some_bind, if_neg one_ne]
            exact ⟨_, _, _, rfl, rfl, hX0, rfl⟩
          · rw [if_neg s, if_neg s, some_bind, if_pos rfl, f1]
            exact ⟨_, _, _, rfl, f2, f3, f4⟩
      rcases S9 with ⟨t1, ⟨j, j1, j2, j3⟩, t2⟩ | ⟨t1, K, t2⟩
      · rw [e9a _ t2, if_pos (x5.mpr t1)]
        rcases S8 with ⟨u1, -⟩ | ⟨-, u2⟩
        · exact absurd j3 (u1 j j1 j2)
        · rw [show f_X6_hasShell_2 1000 cs (nI m) 0 = some 1 from u2, some_bind, if_neg one_ne, some_bind, if_neg one_ne]
          exact ⟨_, _, _, rfl, rfl, hX0, rfl⟩
      · rw [e9a _ t2]
        by_cases c5 : (rowX ms r k 0).toInt32 = 5
        · rw [if_pos (x5.mpr c5)]
          rcases S8 with ⟨-, u2⟩ | ⟨⟨j, j1, j2, j3⟩, -⟩
          · rw [show f_X6_hasShell_2 1000 cs (nI m) 0 = some 0 from u2, some_bind, if_pos rfl]
            exact tail K
          · exact absurd j3 (t1 c5 j j1 j2)
        · rw [if_neg (fun z => c5 (x5.mp z))]
          exact tail K
    · exact absurd (a1 j j1 j2) j3
  · rcases B9 with ⟨b1, -⟩ | ⟨-, b2'⟩
    · exact absurd (b1 j j1 j2) j3
    · rw [show f_X8_hasNumberBeyond_2 1000 cs (nI m) (nI r) 0 = some 1 from a2, some_bind, if_neg one_ne, show f_X9_part_78 1000 (miU ms 0 0) (nI m) (nI r) (nI k) 0 = _ from b2']
      exact ⟨_, _, _, rfl, rfl, hX0, rfl⟩
theorem P_part : H_part RR := by
  rintro cs ms v1 v2 v3 hR
  have hX0 : RR cs (miU ms 0 0) := hR
  have hX1 : RR cs (miU ms 0 1) := hR
  have hX2 : RR cs (miU ms 0 2) := hR
  obtain ⟨⟨n, hn, h1, h2, hw, hr, hv⟩, -⟩ := id hR
  unfold f_X8_part f_X9_part f_X9_part_20 f_X9_part_21 f_X6_isModel
  by_cases q1 : v1 < 0
  · rw [if_pos q1, if_pos q1, may_0 (t := 0) (by decide), b2_some, if_pos rfl, some_bind, if_pos rfl]
    exact ⟨_, _, rfl, _, _, rfl, agr_r rfl (by simp) hX1⟩
  rw [if_neg q1, if_neg q1]
  by_cases q2 : 8 ≤ v1
  · rw [if_pos q2, if_pos q2, may_0 (t := 0) (by decide), b2_some, if_pos rfl, some_bind, if_pos rfl]
    exact ⟨_, _, rfl, _, _, rfl, agr_r rfl (by simp) hX1⟩
  obtain ⟨m, hm31, rfl⟩ := nI_of q1
  have hm : m < 8 := Nat.lt_of_not_le fun z => q2 (nI_le (a := 8) z hm31)
  rw [if_neg q2, if_neg q2, may_1, b2_some, if_neg one_ne, some_bind, if_neg one_ne]
  rcases slot_cases (v1 := v2) (v2 := v3) hn h1 h2 with ⟨s, k, hs, hk, rfl, rfl, e1, e2⟩ | ⟨e1, e2⟩
  · have hrr : 16 * s + k < 128 := by omega
    obtain ⟨r1, r2⟩ := hr _ hrr
    have r1' : ma (miU ms 0 0) 28 (16 * s + k) = ca cs 13 (16 * s + k) := r1.symm
    rw [e1, e2, b2_some, if_neg one_ne, bx_inl, l16, nI_mul, nI_add, ldI_n hrr (by omega), some_bind, lengthAt_n hrr, some_bind, r1']
    rcases r2 with q | ⟨len, hlen, q⟩
    · rw [q, if_pos rfl, if_pos rfl]
      exact ⟨_, _, rfl, _, _, rfl, agr_l rfl hX0⟩
    · rw [q, if_neg (nI_ne_neg (k := len) (by omega)), if_neg (nI_ne_neg (k := len) (by omega))]
      by_cases q7 : 7 ≤ len
      · rw [if_pos (show (7 : Int32) ≤ nI len from nI_le (a := 7) q7 (by omega)), if_pos (show (7 : Int32) ≤ nI len from nI_le (a := 7) q7 (by omega))]
        obtain ⟨v, cs', ms', t1, t2, t3, t4⟩ := part_tail hR hm (r := 16 * s + k) (k := len) ⟨hrr, hlen, q, fun w hw => hv _ w len hrr hw hlen q⟩ q7
        exact ⟨_, _, t1, _, _, t2, agr_l t4 t3⟩
      · rw [if_neg (show ¬ (7 : Int32) ≤ nI len from nI_ge (b := 7) (by omega) (by omega)), if_neg (show ¬ (7 : Int32) ≤ nI len from nI_ge (b := 7) (by omega) (by omega))]
        exact ⟨_, _, rfl, _, _, rfl, agr_l rfl hX0⟩
  · rw [e1, e2 2 (by decide), b2_some, if_pos rfl, bx_inr]
    exact ⟨_, _, rfl, _, _, rfl, agr_r rfl (by simp) hX2⟩

/-- an item, or none -/
theorem item_cases {cs : CS} {ms : MS} {v1 : Int32} (hC : RCr cs ms) (hI : RIt cs ms) : (∃ i a c m p k' : Nat, v1 = nI i ∧ nI i < mi ms 12 ∧ ItOK cs ms i a c m p k' ∧ f_X8_itemAt cs v1 = some (some a) ∧ f_X8_itemOf cs v1 = some (.inl (some a), cs) ∧ f_X9_isItem (miU ms 0 0) v1 = some (1, miU ms 0 0)) ∨ (f_X8_itemOf cs v1 = some (.inr "java/util/NoSuchElementException", cs) ∧ f_X9_isItem (miU ms 0 0) v1 = some (0, miU ms 0 1)) := by
  obtain ⟨n, hn, h1, h2, h3, -⟩ := id hI
  have h2' : mi (miU ms 0 0) 12 = nI n := h2
  unfold f_X8_itemOf f_X8_itemAt f_X9_isItem
  rw [h1, h2', show (400 : Int32) = nI 400 from rfl]
  by_cases q1 : v1 < 0
  · exact Or.inr ⟨by rw [if_pos q1]; rfl, by rw [if_pos q1, may_0 (t := 0) (by decide), b2_some, gd_t (Or.inl rfl)]⟩
  obtain ⟨i, hi, rfl⟩ := nI_of q1
  by_cases q2 : n ≤ i
  · exact Or.inr ⟨by rw [if_neg q1, if_pos (nI_le q2 hi)]; rfl, by rw [if_neg q1, if_pos (nI_le q2 hi), may_0 (t := 0) (by decide), b2_some, gd_t (Or.inl rfl)]⟩
  · have hlt : nI i < mi ms 12 := by rw [h2]; exact nI_lt (by omega) (by omega)
    obtain ⟨a, c, m, p, k', hOK⟩ := item_ok hC hI (i := i) (by omega) hlt
    have e : ((ldQ (cg cs 9) 400 (nI i)).bind fun r5 => ob r5 (some none) fun a6 => some (some a6)) = some (some a) := by
      rw [ldQ_n (by omega) hi, hOK.1.1]; rfl
    refine Or.inl ⟨i, a, c, m, p, k', rfl, hlt, hOK, ?_, ?_, ?_⟩
    · rw [if_neg q1, if_neg (nI_ge (by omega) (by omega)), if_neg (nI_ge (by omega) (by omega)), e]
    · rw [if_neg q1, if_neg (nI_ge (by omega) (by omega)), if_neg (nI_ge (by omega) (by omega)), e]; rfl
    · rw [if_neg q1, if_neg (nI_ge (by omega) (by omega)), may_1, b2_some, gd_t (Or.inr rfl)]
theorem P_item : H_item RR := by
  rintro cs ms v1 v2 hR
  have hX0 : RR cs (miU ms 0 0) := hR
  have hX1 : RR cs (miU ms 0 1) := hR
  have hX2 : RR cs (miU ms 0 2) := hR
  obtain ⟨-, -, -, h4, h5, h6, -, -, -, ⟨d, hd, d1, d2⟩, -⟩ := hR
  unfold f_X8_item f_X9_item f_X9_item_27 f_X9_item_28
  rcases item_cases (v1 := v1) h5 h6 with ⟨i, a, c, m, p, k', rfl, hlt, hOK, -, e1, e2⟩ | ⟨e1, e2⟩
  · have hOK0 : ItOK cs (miU ms 0 0) i a c m p k' := hOK
    obtain ⟨v, v8, v9⟩ := value_eq (ms := miU ms 0 0) h4 (d1.trans d2.symm) hOK0
    obtain ⟨⟨-, x2, x3, y0, y2, y3, y4, y5, -⟩, hi, -⟩ := id hOK
    have hcl : a ∈ cl cs ∧ ck cs a = 1 := ⟨x2, x3⟩
    have hi31 : i < 2 ^ 31 := by omega
    have e63 : ma (miU ms 0 0) 63 = ma ms 63 := rfl
    have e64 : ma (miU ms 0 0) 64 = ma ms 64 := rfl
    have e65 : ma (miU ms 0 0) 65 = ma ms 65 := rfl
    have e66 : ma (miU ms 0 0) 66 = ma ms 66 := rfl
    have e67 : ma (miU ms 0 0) 67 = ma ms 67 := rfl
    rw [e1, e2, b2_some, if_neg one_ne, bx_inl, ob_some]
    by_cases q1 : v2 < 0
    · have p0 : v2 ≠ 0 := by rintro rfl; exact absurd q1 (by decide)
      have p1 : v2 ≠ 1 := by rintro rfl; exact absurd q1 (by decide)
      have p2 : v2 ≠ 2 := by rintro rfl; exact absurd q1 (by decide)
      have p3 : v2 ≠ 3 := by rintro rfl; exact absurd q1 (by decide)
      have p4 : v2 ≠ 4 := by rintro rfl; exact absurd q1 (by decide)
      rw [if_neg p0, if_neg p1, if_neg p2, if_neg p3, if_neg p4, if_pos q1, may_0 (t := 0) (by decide), b2_some, if_pos rfl]
      exact ⟨_, _, rfl, _, _, rfl, agr_r rfl (by simp) hX2⟩
    obtain ⟨w, hw, rfl⟩ := nI_of q1
    by_cases q2 : w ≤ 4
    · rw [if_neg q1, if_neg (show ¬ (4 : Int32) < nI w from nI_nlt (a := 4) q2 (by omega)), may_1, b2_some, if_neg one_ne]
      simp only [gd_t hcl, ldI_n hi hi31, some_bind, e63, e64, e65, e66, e67, v8, v9, y0, y2, y3, y4]
      rcases (show w = 0 ∨ w = 1 ∨ w = 2 ∨ w = 3 ∨ w = 4 by omega) with rfl | rfl | rfl | rfl | rfl
      · rw [if_pos (by decide), if_pos (by decide)]
        exact ⟨_, _, rfl, _, _, rfl, agr_l rfl hX0⟩
      · rw [if_neg (by decide), if_pos (by decide), if_neg (by decide), if_pos (by decide)]
        exact ⟨_, _, rfl, _, _, rfl, agr_l rfl hX0⟩
      · rw [if_neg (by decide), if_neg (by decide), if_pos (by decide), if_neg (by decide), if_neg (by decide), if_pos (by decide)]
        exact ⟨_, _, rfl, _, _, rfl, agr_l rfl hX0⟩
      · have n0 : ¬ nI 3 = 0 := by decide
        have n1 : ¬ nI 3 = 1 := by decide
        have n2 : ¬ nI 3 = 2 := by decide
        have n3 : nI 3 = 3 := rfl
        rw [if_neg n0, if_neg n0, if_neg n1, if_neg n1, if_neg n2, if_neg n2, if_pos n3, if_pos n3]
        by_cases r0 : ma ms 65 i = 0
        · rw [if_pos r0, if_pos r0]
          exact ⟨_, _, rfl, _, _, rfl, agr_l rfl hX0⟩
        rw [if_neg r0, if_neg r0]
        by_cases r1 : ma ms 65 i = 1
        · rw [if_pos r1, if_pos r1, y5 r1]
          exact ⟨_, _, rfl, _, _, rfl, agr_l rfl hX0⟩
        · rw [if_neg r1, if_neg r1]
          exact ⟨_, _, rfl, _, _, rfl, agr_l rfl hX0⟩
      · rw [if_neg (by decide), if_neg (by decide), if_neg (by decide), if_neg (by decide), if_neg (by decide), if_neg (by decide), if_neg (by decide), if_neg (by decide), if_pos (by decide)]
        exact ⟨_, _, rfl, _, _, rfl, agr_l rfl hX0⟩
    · have p : ∀ j, j ≤ 4 → nI w ≠ nI j := fun j hj z => by
        have := nI_inj (by omega) (by omega) z
        omega
      rw [if_neg q1, if_pos (show (4 : Int32) < nI w from nI_lt (a := 4) (by omega) (by omega)), may_0 (t := 0) (by decide), b2_some, if_pos rfl]
      refine ⟨_, _, rfl, .inr "java/lang/IllegalArgumentException", cs, ?_, agr_r rfl (by simp) hX2⟩
      rw [if_neg (show ¬ nI w = 0 from p 0 (by omega)), if_neg (show ¬ nI w = 1 from p 1 (by omega)), if_neg (show ¬ nI w = 2 from p 2 (by omega)), if_neg (show ¬ nI w = 3 from p 3 (by omega)), if_neg (show ¬ nI w = 4 from p 4 (by omega))]
  · rw [e1, e2, b2_some, if_pos rfl, bx_inr]
    exact ⟨_, _, rfl, _, _, rfl, agr_r rfl (by simp) hX1⟩

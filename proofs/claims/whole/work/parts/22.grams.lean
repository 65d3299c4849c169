/-! ===== grams ===== -/
theorem P_grams : H_grams RR := by
  rintro cs ms v1 v2 hR
  have hX0 : RR cs (miU ms 0 0) := hR
  have hX1 : RR cs (miU ms 0 1) := hR
  obtain ⟨-, -, -, -, -, -, hW, -⟩ := hR
  unfold f_X8_grams f_X8_weightPlace f_X9_grams f_X9_grams_28 f_X9_grams_29
  have bad : ∀ h : f_X8_weightPlace cs v1 v2 = some (-1), ((f_X8_weightPlace cs v1 v2).bind fun r1 => if r1 = (-1 : Int32) then some ((.inr "java/lang/IllegalArgumentException", cs) : (Int32 ⊕ String) × CS) else ((ldI (ca cs 10) 24 r1).bind fun q4 => some (.inl q4, cs))) = some (.inr "java/lang/IllegalArgumentException", cs) := by
    intro h
    rw [h, some_bind, if_pos rfl]
  unfold f_X8_weightPlace at bad
  by_cases q1 : v1 < 0
  · refine ⟨0, miU ms 0 1, ?_, .inr "java/lang/IllegalArgumentException", cs, bad (if_pos q1), agr_r rfl (by simp) hX1⟩
    rw [if_pos q1, may_0 (t := 0) (by decide), b2_some, if_pos rfl]
  by_cases q2 : 4 ≤ v1
  · refine ⟨0, miU ms 0 1, ?_, .inr "java/lang/IllegalArgumentException", cs, bad (by rw [if_neg q1, if_pos q2]), agr_r rfl (by simp) hX1⟩
    obtain ⟨s, hs, rfl⟩ := nI_of q1
    have : 4 ≤ s := (nI_le_iff (a := 4) (by omega) hs).mp q2
    rw [if_neg q1, if_pos (show (3 : Int32) < nI s from nI_lt (a := 3) (by omega) hs), may_0 (t := 0) (by decide), b2_some, if_pos rfl]
  obtain ⟨s, hs, rfl⟩ := nI_of q1
  have hs4 : s < 4 := Nat.lt_of_not_le fun z => q2 (nI_le (a := 4) z hs)
  have q3' : ¬ (3 : Int32) < nI s := nI_nlt (a := 3) (by omega) (by omega)
  by_cases q4 : v2 < 0
  · refine ⟨0, miU ms 0 1, ?_, .inr "java/lang/IllegalArgumentException", cs, bad (by rw [if_neg q1, if_neg q2, if_pos q4]), agr_r rfl (by simp) hX1⟩
    rw [if_neg q1, if_neg q3', if_pos q4, may_0 (t := 0) (by decide), b2_some, if_pos rfl]
  obtain ⟨w, hw, rfl⟩ := nI_of q4
  by_cases q5 : 6 ≤ w
  · have q5' : (6 : Int32) ≤ nI w := nI_le (a := 6) q5 hw
    refine ⟨0, miU ms 0 1, ?_, .inr "java/lang/IllegalArgumentException", cs, bad (by rw [if_neg q1, if_neg q2, if_neg q4, if_pos q5']), agr_r rfl (by simp) hX1⟩
    rw [if_neg q1, if_neg q3', if_neg q4, if_pos (show (5 : Int32) < nI w from nI_lt (a := 5) (by omega) hw), may_0 (t := 0) (by decide), b2_some, if_pos rfl]
  · have q6 : ¬ (6 : Int32) ≤ nI w := nI_ge (b := 6) (by omega) (by omega)
    have q7 : ¬ (5 : Int32) < nI w := nI_nlt (a := 5) (by omega) (by omega)
    have ew : (if nI s < 0 then some (-1) else if 4 ≤ nI s then some (-1) else if nI w < 0 then some (-1) else if 6 ≤ nI w then some (-1) else if nI s * 6 + nI w < 0 then some (-1) else if 24 ≤ nI s * 6 + nI w then some (-1) else some (nI s * 6 + nI w)) = some (nI (6 * s + w)) := by
      rw [if_neg q1, if_neg q2, if_neg q4, if_neg q6, l6, nI_mul, nI_add, Nat.mul_comm s 6, if_neg (nI_pos (by omega)), if_neg (show ¬ (24 : Int32) ≤ nI (6 * s + w) from nI_ge (b := 24) (by omega) (by omega))]
    rw [ew, some_bind, if_neg (nI_ne_neg (by omega)), ldI_n (by omega) (by omega), if_neg q1, if_neg q3', if_neg q4, if_neg q7, may_1, b2_some, if_neg one_ne]
    obtain ⟨w0, w1, w2, w3, w4, w5⟩ := hW s hs4
    simp only [ldL_n hs4 hs, some_bind]
    rcases (show w = 0 ∨ w = 1 ∨ w = 2 ∨ w = 3 ∨ w = 4 ∨ w = 5 by omega) with rfl | rfl | rfl | rfl | rfl | rfl
    · rw [if_pos (by decide)]
      exact ⟨_, _, rfl, _, _, congrArg (fun z => some ((.inl z, cs) : (Int32 ⊕ String) × CS)) w0, agr_l rfl hX0⟩
    · rw [if_neg (by decide), if_pos (by decide)]
      exact ⟨_, _, rfl, _, _, congrArg (fun z => some ((.inl z, cs) : (Int32 ⊕ String) × CS)) w1, agr_l rfl hX0⟩
    · rw [if_neg (by decide), if_neg (by decide), if_pos (by decide)]
      exact ⟨_, _, rfl, _, _, congrArg (fun z => some ((.inl z, cs) : (Int32 ⊕ String) × CS)) w2, agr_l rfl hX0⟩
    · rw [if_neg (by decide), if_neg (by decide), if_neg (by decide), if_pos (by decide)]
      exact ⟨_, _, rfl, _, _, congrArg (fun z => some ((.inl z, cs) : (Int32 ⊕ String) × CS)) w3, agr_l rfl hX0⟩
    · rw [if_neg (by decide), if_neg (by decide), if_neg (by decide), if_neg (by decide), if_pos (by decide)]
      exact ⟨_, _, rfl, _, _, congrArg (fun z => some ((.inl z, cs) : (Int32 ⊕ String) × CS)) w4, agr_l rfl hX0⟩
    · rw [if_neg (by decide), if_neg (by decide), if_neg (by decide), if_neg (by decide), if_neg (by decide)]
      exact ⟨_, _, rfl, _, _, congrArg (fun z => some ((.inl z, cs) : (Int32 ⊕ String) × CS)) w5, agr_l rfl hX0⟩

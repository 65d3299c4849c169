/-! ===== press ===== -/
theorem danger_loop {cs : CS} {ms : MS} (hMd : RMd cs ms) {c a m k k' : Nat} (hc : c < 40) (hA : CarAt cs ms c a) (hm : m < 8) (g1 : ma ms 46 c = nI m) (g2 : ma ms 49 c = nI k) (hkk : k ≤ k') (hk' : k' ≤ 24) (g3 : ma ms 37 m = nI k') : ∀ (f i : Nat), i ≤ k → k + 1 ≤ i + f → (f_X8_hasDangerOn_2 f cs a (nI i) = some 0 ∧ f_X9_press_62 f ms (nI c) (nI (24 * m)) (nI i) = f_X9_press_107 1000 ms (nI c) (nI (24 * m)) 0 0) ∨ (f_X8_hasDangerOn_2 f cs a (nI i) = some 1 ∧ f_X9_press_62 f ms (nI c) (nI (24 * m)) (nI i) = some (-4, ms)) := by
  obtain ⟨x1, x2, x3, y0, y1, y2, y3, y4, y5, y6, y7, y8⟩ := id hA
  intro f
  induction f with
  | zero => intro i h1 h2; omega
  | succ f ih =>
    intro i h1 h2
    have hc31 : c < 2 ^ 31 := by omega
    rw [f_X8_hasDangerOn_2, f_X9_press_62]
    simp only [gd_t (show a ∈ cl cs ∧ ck cs a = 0 from ⟨x2, x3⟩), y3, y0, g1, g2, ldI_n hc hc31, some_bind]
    by_cases q : k ≤ i
    · rw [if_pos (nI_le q (by omega)), if_pos (nI_le q (by omega))]
      exact Or.inl ⟨rfl, rfl⟩
    have hik : i < k := by omega
    have nle : ¬ nI k ≤ nI i := nI_ge hik (by omega)
    obtain ⟨f0, -⟩ := fact_at hMd hm hk' g3 (p := i) (by omega)
    have hz : 24 * m + i < 192 := by omega
    simp only [if_neg nle, isOn8 hA g2 (show k ≤ 24 by omega) hik, isOn9 hc, some_bind, f0, nI_add, ldI_n hz (show 24 * m + i < 2 ^ 31 by omega), nI_1]
    by_cases qo : onb (ma ms 50 c) (nI i) = 0
    · rw [if_pos qo, if_pos qo]
      exact ih (i + 1) (by omega) (by omega)
    · rw [if_neg qo, if_neg qo]
      by_cases q4 : ma ms 38 (24 * m + i) = 4
      · rw [if_pos q4, if_pos q4]
        exact Or.inr ⟨rfl, rfl⟩
      · rw [if_neg q4, if_neg q4]
        exact ih (i + 1) (by omega) (by omega)
theorem t32_id (x : Int32) : x.toInt64.toInt32 = x := Int32.toInt32_toInt64 x
theorem i32_a (w g : Int32) : w + -1 * g = w - g := by grind
theorem i32_b (a b d e x g : Int32) : a - b - d - e - x - g = a - b - d - (e + g) - x := by grind
theorem i32_c (w g : Int32) : w + 1 * g = w + g := by grind

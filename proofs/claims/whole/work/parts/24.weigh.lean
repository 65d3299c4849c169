/-! ===== grams at a gate ===== -/
theorem place_n {cs : CS} {s g : Nat} (hs : s < 4) (hg : g < 6) : f_X8_weightPlace cs (nI s) (nI g) = some (nI (6 * s + g)) := by
  unfold f_X8_weightPlace
  rw [l4, l6, if_neg (nI_pos (by omega)), if_neg (nI_ge (by omega) (by omega)), if_neg (nI_pos (by omega)), if_neg (nI_ge (by omega) (by omega)), nI_mul, nI_add, Nat.mul_comm s 6, if_neg (nI_pos (by omega)), if_neg (show ¬ (24 : Int32) ≤ nI (6 * s + g) from nI_ge (b := 24) (by omega) (by omega))]
theorem weigh_n {cs : CS} {ms : MS} (hMd : RMd cs ms) {m p n g : Nat} (hm : m < 8) (hn : n ≤ 24) (e : ma ms 37 m = nI n) (hp : p < n) (hg : g < 6) (t : Int32) : ∃ s, s < 4 ∧ ma ms 43 (24 * m + p) = nI s ∧ f_X8_weigh cs (nI m) (nI p) (nI g) t = some (caU cs 10 (6 * s + g) (ca cs 10 (6 * s + g) + t * ma ms 42 (24 * m + p))) := by
  obtain ⟨-, -, -, -, f4, f5, -, -, hr⟩ := fact_at hMd hm hn e hp
  obtain ⟨-, -, -, -, -, ⟨s, hs, h5⟩, -⟩ := hr
  refine ⟨s, hs, h5, ?_⟩
  unfold f_X8_weigh
  rw [f5, some_bind, h5, place_n hs hg, some_bind, if_neg (nI_ne_neg (by omega)), ldI_n (by omega) (by omega), some_bind, f4, some_bind, ixr_n (by omega) (by omega), nI_clamp (by omega)]

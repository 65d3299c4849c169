/-! ===== press: what is left is weighed out ===== -/
theorem caS_id {s : CS} {k : Nat} : caS s k (ca s k) = s := by
  show (_, _, va_up s.2.2.1 k (s.2.2.1 k), _) = s
  rw [va_up_id]
theorem RWt_press {cs : CS} {ms : MS} {W : Nat → Int32} {P : Nat → Int64} {s : Nat} {g : Int32} (hs : s < 4) (h : RWt (caS cs 10 W) (mbS ms 57 P)) : RWt (caS cs 10 (upd (upd W (6 * s + 1) (W (6 * s + 1) + -1 * g)) (6 * s + 4) (upd W (6 * s + 1) (W (6 * s + 1) + -1 * g) (6 * s + 4) + 1 * g))) (mbS ms 57 (vp_updL P s (P s + g.toInt64))) := by
  intro z hz
  obtain ⟨a0, a1, a2, a3, a4, a5⟩ := h z hz
  show upd _ _ _ (6 * z) = (mb ms 55 z).toInt32 ∧ upd _ _ _ (6 * z + 1) = (mb ms 55 z - mb ms 58 z - mb ms 56 z - vp_updL P s (P s + g.toInt64) z - mb ms 59 z).toInt32 ∧ upd _ _ _ (6 * z + 2) = (mb ms 58 z).toInt32 ∧ upd _ _ _ (6 * z + 3) = (mb ms 56 z).toInt32 ∧ upd _ _ _ (6 * z + 4) = (vp_updL P s (P s + g.toInt64) z).toInt32 ∧ upd _ _ _ (6 * z + 5) = (mb ms 59 z).toInt32
  replace a0 : W (6 * z) = (mb ms 55 z).toInt32 := a0
  replace a1 : W (6 * z + 1) = (mb ms 55 z - mb ms 58 z - mb ms 56 z - P z - mb ms 59 z).toInt32 := a1
  replace a2 : W (6 * z + 2) = (mb ms 58 z).toInt32 := a2
  replace a3 : W (6 * z + 3) = (mb ms 56 z).toInt32 := a3
  replace a4 : W (6 * z + 4) = (P z).toInt32 := a4
  replace a5 : W (6 * z + 5) = (mb ms 59 z).toInt32 := a5
  by_cases q : z = s
  · subst q
    refine ⟨?_, ?_, ?_, ?_, ?_, ?_⟩
    · rw [upd_ne (by omega), upd_ne (by omega)]; exact a0
    · rw [upd_ne (by omega), upd_eq, updL_eq, a1]
      simp only [Int64.toInt32_sub, Int64.toInt32_add, Int32.toInt32_toInt64]
      grind
    · rw [upd_ne (by omega), upd_ne (by omega)]; exact a2
    · rw [upd_ne (by omega), upd_ne (by omega)]; exact a3
    · rw [upd_eq, upd_ne (by omega), updL_eq, a4, Int64.toInt32_add, Int32.toInt32_toInt64]
      grind
    · rw [upd_ne (by omega), upd_ne (by omega)]; exact a5
  · rw [upd_ne (by omega), upd_ne (by omega), upd_ne (by omega), upd_ne (by omega), upd_ne (by omega), upd_ne (by omega), upd_ne (by omega), upd_ne (by omega), upd_ne (by omega), upd_ne (by omega), upd_ne (by omega), upd_ne (by omega), updL_ne q]
    exact ⟨a0, a1, a2, a3, a4, a5⟩
theorem press_loop {cs : CS} {ms : MS} (hMd : RMd cs ms) {c a m k k' : Nat} (hc : c < 40) (hA : CarAt cs ms c a) (hm : m < 8) (g1 : ma ms 46 c = nI m) (g2 : ma ms 49 c = nI k) (hkk : k ≤ k') (hk' : k' ≤ 24) (g3 : ma ms 37 m = nI k') : ∀ (f i : Nat) (v : Int32) (W : Nat → Int32) (P : Nat → Int64), i ≤ k → k + 1 ≤ i + f → RWt (caS cs 10 W) (mbS ms 57 P) → ∃ (r : Int32) (W' : Nat → Int32) (P' : Nat → Int64), f_X8_press_25 f (caS cs 10 W) a v (nI i) = some (.inl r, ciU (cpU (cpU (caS cs 10 W') a 5 0) a 8 1) 11 0) ∧ f_X9_press_107 f (mbS ms 57 P) (nI c) (nI (24 * m)) v (nI i) = some (r, miU (maU (maU (mbS ms 57 P') 50 c 0) 54 c 1) 11 0) ∧ RWt (caS cs 10 W') (mbS ms 57 P') := by
  obtain ⟨x1, x2, x3, y0, y1, y2, y3, y4, y5, y6, y7, y8⟩ := id hA
  intro f
  induction f with
  | zero => intro i v W P h1 h2; omega
  | succ f ih =>
    intro i v W P h1 h2 hW
    have hc31 : c < 2 ^ 31 := by omega
    have hcl : a ∈ cl (caS cs 10 W) ∧ ck (caS cs 10 W) a = 0 := ⟨x2, x3⟩
    have hA' : CarAt (caS cs 10 W) (mbS ms 57 P) c a := hA
    have hMd' : RMd (caS cs 10 W) (mbS ms 57 P) := hMd
    have y3' : cp (caS cs 10 W) a 3 = nI k := y3.trans g2
    have y0' : ∀ w, cp (caS cs 10 w) a 0 = nI m := fun w => y0.trans g1
    have g2' : ma (mbS ms 57 P) 49 c = nI k := g2
    rw [f_X8_press_25, f_X9_press_107, gd_t hcl, y3', ldI_n hc hc31, some_bind, g2']
    by_cases q : k ≤ i
    · rw [if_pos (nI_le q (by omega)), if_pos (nI_le q (by omega)), ixr_n hc hc31, ixr_n hc hc31, nI_clamp hc31]
      exact ⟨v, W, P, rfl, rfl, hW⟩
    have hik : i < k := by omega
    obtain ⟨s, hs, h43, w1⟩ := weigh_n hMd' hm hk' g3 (p := i) (g := 1) (by omega) (by omega) (-1)
    have hz : 24 * m + i < 192 := by omega
    rw [if_neg (nI_ge hik (by omega)), if_neg (nI_ge hik (by omega)), isOn8 hA' g2' (by omega) hik, isOn9 hc, some_bind, some_bind, y0']
    by_cases qo : onb (ma (mbS ms 57 P) 50 c) (nI i) = 0
    · rw [if_pos qo, if_pos qo, nI_1]
      exact ih (i + 1) v W P (by omega) (by omega) hW
    · have w1' : f_X8_weigh (caS cs 10 W) (nI m) (nI i) 1 (-1) = some (caS cs 10 (upd W (6 * s + 1) (W (6 * s + 1) + -1 * ma ms 42 (24 * m + i)))) := w1.trans (congrArg some caS_caU)
      obtain ⟨s', hs', h43', w2⟩ := weigh_n (cs := caS cs 10 (upd W (6 * s + 1) (W (6 * s + 1) + -1 * ma ms 42 (24 * m + i)))) (ms := ms) hMd hm hk' g3 (p := i) (g := 4) (by omega) (by omega) 1
      obtain rfl : s = s' := nI_inj (by omega) (by omega) (h43.symm.trans h43')
      have w2' : f_X8_weigh (caS cs 10 (upd W (6 * s + 1) (W (6 * s + 1) + -1 * ma ms 42 (24 * m + i)))) (nI m) (nI i) 4 1 = some (caS cs 10 (upd (upd W (6 * s + 1) (W (6 * s + 1) + -1 * ma ms 42 (24 * m + i))) (6 * s + 4) (upd W (6 * s + 1) (W (6 * s + 1) + -1 * ma ms 42 (24 * m + i)) (6 * s + 4) + 1 * ma ms 42 (24 * m + i)))) := w2.trans (congrArg some caS_caU)
      have f4 : ∀ w, f_X6_factOf (caS cs 10 w) (nI m) (nI i) 4 = some (ma ms 42 (24 * m + i)) := fun w => (fact_at (cs := caS cs 10 w) (ms := ms) hMd hm hk' g3 (p := i) (by omega)).2.2.2.2.1
      have e42 : ma (mbS ms 57 P) 42 = ma ms 42 := rfl
      have e43 : ma (mbS ms 57 P) 43 (24 * m + i) = nI s := h43
      have e57 : mb (mbS ms 57 P) 57 = P := rfl
      have hc2 : ∀ w, a ∈ cl (caS cs 10 w) ∧ ck (caS cs 10 w) a = 0 := fun w => ⟨x2, x3⟩
      rw [if_neg qo, if_neg qo, w1', some_bind, gd_t (hc2 _), y0', w2', some_bind, gd_t (hc2 _), y0', f4, some_bind, nI_1, nI_add, e42]
      simp only [ldI_n hz (show 24 * m + i < 2 ^ 31 by omega), some_bind, e43, e57, ldL_n hs (show s < 2 ^ 31 by omega), ixr_n hs (show s < 2 ^ 31 by omega), nI_clamp (show s < 2 ^ 31 by omega), mbS_mbU]
      exact ih (i + 1) _ _ _ (by omega) (by omega) (RWt_press hs hW)

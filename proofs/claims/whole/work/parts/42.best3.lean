/-! ===== best and worth ===== -/
theorem run_lo {M : Nat → Bool} {own : Nat → Int32} {P : Nat → Option Nat} (hlt : ∀ q j, P q = some j → j < q) {q : Nat} (hq : M q = false) : ∀ (i : Nat) (G : Nat → Int32), q < i → run (st9 M own P) i G q = -1 := by
  intro i
  induction i with
  | zero => intro G h; omega
  | succ i ih =>
    intro G h
    by_cases z : q = i
    · subst z
      refine (run_hi hlt q _ q (Nat.le_refl _)).trans ?_
      unfold st9
      rw [if_neg (by rw [hq]; simp), upd_eq]
    · exact ih _ (by omega)
theorem asc_none {M : Nat → Bool} {F : Nat → Int32} {P : Nat → Option Nat} : ∀ (n i v : Nat), (∀ q, q < i + n → M q = false) → asc M F P n i v = v := by
  intro n
  induction n with
  | zero => intro i v _; rfl
  | succ n ih =>
    intro i v h
    rw [asc, ih (i + 1) _ (fun q hq => h q (by omega))]
    unfold chs pkd
    rw [h i (by omega)]
    rfl
theorem sm_none {f : Nat → Int32} : ∀ n, sm f (fun p => (0 : Nat).testBit p) n = 0 := by
  intro n
  induction n with
  | zero => rfl
  | succ n ih => rw [sm, ih]; simp
theorem sums8 {cs : CS} {ms : MS} {c a m k k' : Nat} (h : CL cs ms c a m k k') (w : Int32) : ∃ G, (∀ j, j < 24 → G j = 0) ∧ f_X8_sumGains cs (some a) w = some (caS cs 11 (run (st8 (Mf ms c m) (ownf ms m w) (Hf ms m k)) k G)) := by
  obtain ⟨hMd, hc, hA, hm, g1, g2, hkk, hk', g3⟩ := id h
  obtain ⟨x1, x2, x3, y0, y1, y2, y3, -⟩ := id hA
  obtain ⟨G, e, hz⟩ := fill_loop (cs := cs) 1000 0 (ca cs 11) (by omega) (by omega)
  refine ⟨G, fun j hj => hz j hj (Or.inl (by omega)), ?_⟩
  rw [caS_id] at e
  have hcl : a ∈ cl (caS cs 11 G) ∧ ck (caS cs 11 G) a = 0 := ⟨x2, x3⟩
  have y3' : cp (caS cs 11 G) a 3 = nI k := y3.trans g2
  unfold f_X8_sumGains f_J7_fill_53178
  rw [ob_some, show f_J7_fill_53178_5 1000 cs 0 0 24 = _ from e, some_bind, gd_t hcl, y3', if_neg (show ¬ (24 : Int32) < nI k from nI_nlt (a := 24) (by omega) (by omega))]
  exact sum8_loop h w 1000 k G (Nat.le_refl _) (by omega)
theorem best_n {cs : CS} {ms : MS} (hR : RR cs ms) {c a m k k' : Nat} (h : CL cs ms c a m k k') (h54 : ma ms 54 c = 0 ∨ (ma ms 54 c = 1 ∧ ma ms 50 c = 0)) (w : Int32) : ∃ (v : Nat) (G : Nat → Int32) (ms' : MS), v < 2 ^ k ∧ f_X8_bestOf cs (some a) w = some (nI v, caS cs 11 G) ∧ f_X9_findBest (miU ms 0 0) (nI c) w = some (nI v, ms') ∧ RR (caS cs 11 G) ms' ∧ mi ms' 0 = 0 ∧ mi ms' 15 = sm (ownf ms m w) (fun p => v.testBit p) k := by
  obtain ⟨hMd, hc, hA, hm, g1, g2, hkk, hk', g3⟩ := id h
  have hc31 : c < 2 ^ 31 := by omega
  obtain ⟨G0, z0, s8⟩ := sums8 h w
  have hCL : ∀ W, CL (caS cs 11 W) ms c a m k k' := fun W => h
  have e54 : ma (miU (miU ms 0 0) 15 0) 54 = ma ms 54 := rfl
  have e46 : ma (miU (miU ms 0 0) 15 0) 46 = ma ms 46 := rfl
  unfold f_X8_bestOf f_X9_findBest
  rw [ob_some, s8, some_bind, ldI_n hc hc31, some_bind, e54]
  rcases h54 with h54 | ⟨h54, h50⟩
  · rw [h54, if_pos rfl, ldI_n hc hc31, some_bind, e46, g1, l24, nI_mul]
    have hC0 : CL cs (miU (miU ms 0 0) 15 0) c a m k k' := h
    obtain ⟨G9, e9, z9⟩ := zero9_loop (ms := miU (miU ms 0 0) 15 0) hc g2 (by omega) w (nI (24 * m)) 1000 0 (ma ms 71) (by omega) (by omega)
    have e71 : maS (miU (miU ms 0 0) 15 0) 71 (ma ms 71) = miU (miU ms 0 0) 15 0 := by
      show (_, _, va_up ms.2.2.1 71 (ms.2.2.1 71), _) = _
      rw [va_up_id]
      rfl
    rw [e71] at e9
    rw [show f_X9_findBest_29 1000 (miU (miU ms 0 0) 15 0) (nI c) w (nI (24 * m)) 0 = _ from e9, sum9_loop hC0 w 1000 k G9 (Nat.le_refl _) (by omega)]
    have hPl := P_lt h
    have hHl := H_lt h
    have hrel := rel_run (M := Mf ms c m) (On := Onf ms c) (own := ownf ms m w) (H := Hf ms m k) (P := Pf ms c m k) hHl (fun q => rfl) (fun q hq => by
      unfold Mf at hq
      simp at hq
      exact hq.1.1) (k := k) k G0 G9 (Nat.le_refl _) (fun q hq => ⟨fun _ _ => by rw [z0 q (by omega), z9 q hq (Or.inl (by omega))], fun a => by omega⟩)
    generalize hF : run (st9 (Mf ms c m) (ownf ms m w) (Pf ms c m k)) k G9 = F at hrel
    have hF' : run (st9 (Mf (miU (miU ms 0 0) 15 0) c m) (ownf (miU (miU ms 0 0) 15 0) m w) (Pf (miU (miU ms 0 0) 15 0) c m k)) k G9 = F := hF
    rw [hF']
    generalize run (st8 (Mf ms c m) (ownf ms m w) (Hf ms m k)) k G0 = G8 at hrel
    have u8 := up8_loop (cs := caS cs 11 G8) (hCL G8) F (fun q hq hm => (hrel q hq).2 (by omega) hm) 1000 0 0 (by omega) (by omega) (by omega)
    have hC9 : CL cs (maS (miU ms 0 0) 71 F) c a m k k' := h
    have u9 := up9_loop (ms := maS (miU ms 0 0) 71 F) hC9 (fun q hq hm => by
      show F q ≤ 0
      have hm' : Mf ms c m q = false := hm
      rw [← hF, run_lo hPl hm' k G9 hq]
      decide) 1000 0 0 0 (by omega) (by omega) (by omega)
    have ew := worth_sum (M := Mf ms c m) (own := ownf ms m w) (P := Pf ms c m k) hPl k G9 (fun q hq => z9 q hq (Or.inl (by omega)))
    rw [hF] at ew
    rw [show f_X8_bestOf_11 1000 (caS cs 11 G8) a 0 0 = _ from u8, show f_X9_findBest_263 1000 (maS (miU (miU ms 0 0) 15 0) 71 F) (nI c) (nI (24 * m)) 0 0 = _ from u9]
    obtain ⟨l1, -, -⟩ := asc_spec (M := Mf ms c m) (F := F) hPl k 0 0 (by omega)
    rw [Nat.zero_add] at l1
    refine ⟨asc (Mf ms c m) F (Pf ms c m k) k 0 0, G8, _, l1, rfl, rfl, ?_, rfl, ?_⟩
    · exact hR
    · exact ew
  · have m0 : ∀ q, q < 0 + k → Mf ms c m q = false := by
      intro q hq
      have : Onf ms c q = false := by
        rw [Onf_0, h50]
        have : ∀ j, j < 24 → onb 0 (nI j) = 0 := by decide
        exact this q (by omega)
      unfold Mf
      rw [this]; rfl
    generalize run (st8 (Mf ms c m) (ownf ms m w) (Hf ms m k)) k G0 = G8
    have u8 := up8_loop (cs := caS cs 11 G8) (hCL G8) G8 (fun q hq hm => rfl) 1000 0 0 (by omega) (by omega) (by omega)
    rw [asc_none (k - 0) 0 0 m0] at u8
    rw [h54, if_neg one_ne, show f_X8_bestOf_11 1000 (caS cs 11 G8) a 0 0 = _ from u8]
    exact ⟨0, G8, _, Nat.two_pow_pos k, rfl, rfl, hR, rfl, (sm_none k).symm⟩
theorem worth8_loop {cs : CS} {ms : MS} {c a m k k' : Nat} (h : CL cs ms c a m k k') (w : Int32) {v : Nat} (hv : v < 2 ^ k) : ∀ (f i : Nat) (acc : Int32), i ≤ k → k + 1 ≤ i + f → f_X8_worth_23 f cs w a (nI v) acc (nI i) = some (.inl (acc + (sm (ownf ms m w) (fun p => v.testBit p) k - sm (ownf ms m w) (fun p => v.testBit p) i)), cs) := by
  obtain ⟨hMd, hc, hA, hm, g1, g2, hkk, hk', g3⟩ := id h
  obtain ⟨x1, x2, x3, y0, y1, y2, y3, -⟩ := id hA
  have hv31 : v < 2 ^ 31 := Nat.lt_of_lt_of_le hv (Nat.pow_le_pow_right (by omega) (by omega))
  intro f
  induction f with
  | zero => intro i acc h1 h2; omega
  | succ f ih =>
    intro i acc h1 h2
    rw [f_X8_worth_23, gd_t ⟨x2, x3⟩, y3, g2]
    by_cases q : i = k
    · subst q
      rw [if_pos (nI_le (Nat.le_refl _) (by omega))]
      have : acc + (sm (ownf ms m w) (fun p => v.testBit p) i - sm (ownf ms m w) (fun p => v.testBit p) i) = acc := by grind
      rw [this]
    have hbt := bit_n (v := v) (q := i) hv31 (by omega)
    rw [if_neg (nI_ge (by omega) (by omega)), nI_1]
    have es : sm (ownf ms m w) (fun p => v.testBit p) (i + 1) = sm (ownf ms m w) (fun p => v.testBit p) i + if v.testBit i = true then ownf ms m w i else 0 := rfl
    cases hb : v.testBit i with
    | true =>
      rw [hb] at hbt es
      rw [hbt.trans (if_pos rfl), if_neg one_ne, gain8 h (by omega) w, some_bind, ih (i + 1) _ (by omega) (by omega), es, if_pos rfl]
      congr 3
      grind
    | false =>
      rw [hb] at hbt es
      rw [hbt.trans (if_neg (by simp)), if_pos rfl, ih (i + 1) _ (by omega) (by omega), es, if_neg (by simp)]
      congr 3
      grind
theorem P_best : H_best RR := by
  rintro cs ms v1 v2 hR
  have hX1 : RR cs (miU ms 0 1) := hR
  have hX2 : RR cs (miU ms 0 2) := hR
  obtain ⟨-, -, -, h4, h5, -⟩ := id hR
  unfold f_X8_best f_X9_best f_X8_wageOf
  rcases car_cases (v1 := v1) h5 with ⟨c, a, hc, rfl, hc9, hA, hG, -, e1, e2⟩ | ⟨e1, e2⟩
  · obtain ⟨-, -, z3, m, k, k', o, hm, g1, hk0, hkk, hk', g2, g3, -⟩ := id hG
    rw [e1, e2, b2_some, if_neg one_ne, bx_inl, ob_some]
    by_cases q1 : v2 < 0
    · rw [if_pos q1, if_pos q1, may_0 (t := 0) (by decide), b2_some, if_pos rfl]
      exact ⟨_, _, rfl, _, _, rfl, agr_r rfl (by simp) hX2⟩
    obtain ⟨w, hw, rfl⟩ := nI_of q1
    rw [if_neg q1, if_neg q1]
    by_cases q2 : w ≤ 1000
    · rw [if_neg (show ¬ (1000 : Int32) < nI w from nI_nlt (a := 1000) q2 (by omega)), if_pos (show nI w ≤ (1000 : Int32) from nI_le (b := 1000) q2 (by omega)), may_1, b2_some, if_neg one_ne, bx_inl]
      obtain ⟨v, G, ms', l0, l1, l2, l3, l4, l5⟩ := best_n hR (c := c) (a := a) (m := m) (k := k) (k' := k') ⟨h4, hc, hA, hm, g1, g2, hkk, hk', g3⟩ z3 (nI w)
      rw [l1, l2, b2_some, b2_some]
      exact ⟨_, _, rfl, _, _, rfl, agr_l l4 l3⟩
    · rw [if_pos (show (1000 : Int32) < nI w from nI_lt (a := 1000) (by omega) (by omega)), if_neg (show ¬ nI w ≤ (1000 : Int32) from nI_ge (a := 1000) (by omega) (by omega)), may_0 (t := 0) (by decide), b2_some, if_pos rfl]
      exact ⟨_, _, rfl, _, _, rfl, agr_r rfl (by simp) hX2⟩
  · rw [e1, e2, b2_some, if_pos rfl, bx_inr]
    exact ⟨_, _, rfl, _, _, rfl, agr_r rfl (by simp) hX1⟩
theorem P_worth : H_worth RR := by
  rintro cs ms v1 v2 hR
  have hX1 : RR cs (miU ms 0 1) := hR
  have hX2 : RR cs (miU ms 0 2) := hR
  obtain ⟨-, -, -, h4, h5, -⟩ := id hR
  unfold f_X8_worth f_X9_worth f_X8_wageOf
  rcases car_cases (v1 := v1) h5 with ⟨c, a, hc, rfl, hc9, hA, hG, -, e1, e2⟩ | ⟨e1, e2⟩
  · obtain ⟨-, -, z3, m, k, k', o, hm, g1, hk0, hkk, hk', g2, g3, -⟩ := id hG
    rw [e1, e2, b2_some, if_neg one_ne, bx_inl, ob_some]
    by_cases q1 : v2 < 0
    · rw [if_pos q1, if_pos q1, may_0 (t := 0) (by decide), b2_some, if_pos rfl]
      exact ⟨_, _, rfl, _, _, rfl, agr_r rfl (by simp) hX2⟩
    obtain ⟨w, hw, rfl⟩ := nI_of q1
    rw [if_neg q1, if_neg q1]
    by_cases q2 : w ≤ 1000
    · rw [if_neg (show ¬ (1000 : Int32) < nI w from nI_nlt (a := 1000) q2 (by omega)), if_pos (show nI w ≤ (1000 : Int32) from nI_le (b := 1000) q2 (by omega)), may_1, b2_some, if_neg one_ne, bx_inl]
      have hC : CL cs ms c a m k k' := ⟨h4, hc, hA, hm, g1, g2, hkk, hk', g3⟩
      obtain ⟨v, G, ms', l0, l1, l2, l3, l4, l5⟩ := best_n hR hC z3 (nI w)
      have hC2 : CL (caS cs 11 G) ms c a m k k' := hC
      have lw := worth8_loop hC2 (nI w) l0 1000 0 0 (by omega) (by omega)
      rw [l1, l2, b2_some, b2_some, l5]
      refine ⟨_, _, rfl, _, _, lw, ?_⟩
      have e : (0 : Int32) + (sm (ownf ms m (nI w)) (fun p => v.testBit p) k - sm (ownf ms m (nI w)) (fun p => v.testBit p) 0) = sm (ownf ms m (nI w)) (fun p => v.testBit p) k := by
        have : sm (ownf ms m (nI w)) (fun p => v.testBit p) 0 = 0 := rfl
        rw [this]; grind
      rw [e]
      exact agr_l l4 l3
    · rw [if_pos (show (1000 : Int32) < nI w from nI_lt (a := 1000) (by omega) (by omega)), if_neg (show ¬ nI w ≤ (1000 : Int32) from nI_ge (a := 1000) (by omega) (by omega)), may_0 (t := 0) (by decide), b2_some, if_pos rfl]
      exact ⟨_, _, rfl, _, _, rfl, agr_r rfl (by simp) hX2⟩
  · rw [e1, e2, b2_some, if_pos rfl, bx_inr]
    exact ⟨_, _, rfl, _, _, rfl, agr_r rfl (by simp) hX1⟩

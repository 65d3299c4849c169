/-! ===== looks into a changed state ===== -/
theorem pa_1 {s : MS} {k : Nat} {v : Int32} : ma (miU s k v) = ma s := rfl
theorem pa_2 {s : MS} {k : Nat} {v : Int64} : ma (mjU s k v) = ma s := rfl
theorem pa_3 {s : MS} {k i : Nat} {v : Int64} : ma (mbU s k i v) = ma s := rfl
theorem pa_4 {s : MS} {k i : Nat} {v : Int32} : ma (maU s k i v) k = upd (ma s k) i v := va_up_at
theorem pa_5 {s : MS} {k j i : Nat} {v : Int32} (h : j ≠ k) : ma (maU s k i v) j = ma s j := if_neg h
theorem pb_1 {s : MS} {k : Nat} {v : Int32} : mb (miU s k v) = mb s := rfl
theorem pb_2 {s : MS} {k : Nat} {v : Int64} : mb (mjU s k v) = mb s := rfl
theorem pb_3 {s : MS} {k i : Nat} {v : Int32} : mb (maU s k i v) = mb s := rfl
theorem pb_4 {s : MS} {k i : Nat} {v : Int64} : mb (mbU s k i v) k = vp_updL (mb s k) i v := va_up_at
theorem pb_5 {s : MS} {k j i : Nat} {v : Int64} (h : j ≠ k) : mb (mbU s k i v) j = mb s j := if_neg h
theorem pi_1 {s : MS} {k i : Nat} {v : Int32} : mi (maU s k i v) = mi s := rfl
theorem pi_2 {s : MS} {k : Nat} {v : Int64} : mi (mjU s k v) = mi s := rfl
theorem pi_3 {s : MS} {k i : Nat} {v : Int64} : mi (mbU s k i v) = mi s := rfl
theorem pi_4 {s : MS} {k : Nat} {v : Int32} : mi (miU s k v) k = v := va_up_at
theorem pi_5 {s : MS} {k j : Nat} {v : Int32} (h : j ≠ k) : mi (miU s k v) j = mi s j := if_neg h
theorem pj_1 {s : MS} {k i : Nat} {v : Int32} : mj (maU s k i v) = mj s := rfl
theorem pj_2 {s : MS} {k : Nat} {v : Int32} : mj (miU s k v) = mj s := rfl
theorem pj_3 {s : MS} {k i : Nat} {v : Int64} : mj (mbU s k i v) = mj s := rfl
theorem pj_4 {s : MS} {k : Nat} {v : Int64} : mj (mjU s k v) k = v := va_up_at
theorem ciU_id {s : CS} {k : Nat} : ciU s k (ci s k) = s := by
  show (va_up s.1 k (s.1 k), _) = s
  rw [va_up_id]
theorem upd_at {f : Nat → Int32} {i j : Nat} {v : Int32} : upd f i v j = if j = i then v else f j := by
  by_cases h : j = i
  · rw [if_pos h, h, upd_eq]
  · rw [if_neg h, upd_ne h]
theorem updL_at {f : Nat → Int64} {i j : Nat} {v : Int64} : vp_updL f i v j = if j = i then v else f j := by
  by_cases h : j = i
  · rw [if_pos h, h, updL_eq]
  · rw [if_neg h, updL_ne h]
/-! ===== an item goes from place to place: the class's move ===== -/
def gtN (w : Nat) : Nat := if w = 0 then 2 else if w = 1 then 3 else if w = 2 then 5 else 1
theorem gate_n {cs : CS} {w : Nat} (hw : w ≤ 3) : f_X8_gateOf cs (nI w) = some (nI (gtN w)) := by
  unfold f_X8_gateOf
  rcases (show w = 0 ∨ w = 1 ∨ w = 2 ∨ w = 3 by omega) with rfl | rfl | rfl | rfl <;> rfl
def mvW (W : Nat → Int32) (s g0 g1 : Nat) (g : Int32) : Nat → Int32 := upd (upd W (6 * s + g0) (W (6 * s + g0) + -1 * g)) (6 * s + g1) (upd W (6 * s + g0) (W (6 * s + g0) + -1 * g) (6 * s + g1) + 1 * g)
def moved (cs : CS) (a : Nat) (W : Nat → Int32) (w : Nat) (x : Int32) : CS := cpU (cpU (ciU (caS cs 10 W) 2 x) a 3 (nI w)) a 4 (ci cs 3)
theorem gtN_lt (w : Nat) : gtN w < 6 := by
  unfold gtN
  split
  · omega
  · split
    · omega
    · split <;> omega
theorem move_n {cs : CS} {ms : MS} (hMd : RMd cs ms) {i a c m p k' w0 w : Nat} (h : ItOK cs ms i a c m p k') (h0 : w0 ≤ 3) (h65 : ma ms 65 i = nI w0) (hw : w ≤ 3) (hne : w ≠ 0 ∨ w0 ≠ 0) : ∃ s, s < 4 ∧ ma ms 43 (24 * m + p) = nI s ∧ f_X8_move cs (some a) (nI w) = some (moved cs a (mvW (ca cs 10) s (gtN w0) (gtN w) (ma ms 42 (24 * m + p))) w (if w0 = 0 then ci cs 2 - 1 else if w = 0 then ci cs 2 + 1 else ci cs 2)) := by
  obtain ⟨⟨-, x2, x3, y0, y2, y3, y4, -⟩, -, -, -, -, hm, -, hk', e37, hp, -, e1, e2, -⟩ := id h
  obtain ⟨s, hs, h43, w1⟩ := weigh_n hMd hm hk' e37 hp (gtN_lt w0) (-1)
  obtain ⟨s', hs', h43', w2⟩ := weigh_n (cs := caS cs 10 (upd (ca cs 10) (6 * s + gtN w0) (ca cs 10 (6 * s + gtN w0) + -1 * ma ms 42 (24 * m + p)))) (ms := ms) hMd hm hk' e37 hp (gtN_lt w) 1
  obtain rfl : s = s' := nI_inj (by omega) (by omega) (h43.symm.trans h43')
  refine ⟨s, hs, h43, ?_⟩
  have w1' : f_X8_weigh cs (nI m) (nI p) (nI (gtN w0)) (-1) = some (caS cs 10 (upd (ca cs 10) (6 * s + gtN w0) (ca cs 10 (6 * s + gtN w0) + -1 * ma ms 42 (24 * m + p)))) := w1
  have w2' : f_X8_weigh (caS cs 10 (upd (ca cs 10) (6 * s + gtN w0) (ca cs 10 (6 * s + gtN w0) + -1 * ma ms 42 (24 * m + p)))) (nI m) (nI p) (nI (gtN w)) 1 = some (caS cs 10 (mvW (ca cs 10) s (gtN w0) (gtN w) (ma ms 42 (24 * m + p)))) := w2.trans (congrArg some caS_caU)
  have hc0 : a ∈ cl cs ∧ ck cs a = 1 := ⟨x2, x3⟩
  have hc : ∀ W, a ∈ cl (caS cs 10 W) ∧ ck (caS cs 10 W) a = 1 := fun W => ⟨x2, x3⟩
  have u1 : ∀ W, cp (caS cs 10 W) a 1 = nI m := fun W => e1
  have u2 : ∀ W, cp (caS cs 10 W) a 2 = nI p := fun W => e2
  have u3 : ∀ W, cp (caS cs 10 W) a 3 = nI w0 := fun W => y3.trans h65
  have y3' : cp cs a 3 = nI w0 := y3.trans h65
  unfold f_X8_move
  rw [ob_some, gd_t hc0, y3', gate_n h0, some_bind, e1, e2, w1', some_bind, gd_t (hc _), gate_n hw, some_bind, u1, u2, w2', some_bind, gd_t (hc _), u3]
  have z : ∀ k, k ≤ 3 → (nI k = 0 ↔ k = 0) := fun k hk => ⟨fun q => nI_inj (b := 0) (by omega) (by omega) q, fun q => by rw [q]; rfl⟩
  by_cases q0 : w0 = 0
  · rw [if_pos ((z w0 h0).mpr q0), if_neg (fun q => (hne.resolve_right (fun r => r q0)) ((z w hw).mp q)), if_pos q0]
    rfl
  · rw [if_neg (fun q => q0 ((z w0 h0).mp q)), if_neg q0]
    by_cases q1 : w = 0
    · rw [if_pos ((z w hw).mpr q1), if_pos q1]
      rfl
    · rw [if_neg (fun q => q1 ((z w hw).mp q)), if_neg q1]
      unfold moved
      rw [show ciU (caS cs 10 (mvW (ca cs 10) s (gtN w0) (gtN w) (ma ms 42 (24 * m + p)))) 2 (ci cs 2) = caS cs 10 (mvW (ca cs 10) s (gtN w0) (gtN w) (ma ms 42 (24 * m + p))) from ciU_id (s := caS cs 10 (mvW (ca cs 10) s (gtN w0) (gtN w) (ma ms 42 (24 * m + p)))) (k := 2)]
      rfl
/-! ===== the grams over a move ===== -/
def RWf (W : Nat → Int32) (a b c d e : Nat → Int64) : Prop := ∀ s, s < 4 → W (6 * s) = (a s).toInt32 ∧ W (6 * s + 1) = (a s - b s - c s - d s - e s).toInt32 ∧ W (6 * s + 2) = (b s).toInt32 ∧ W (6 * s + 3) = (c s).toInt32 ∧ W (6 * s + 4) = (d s).toInt32 ∧ W (6 * s + 5) = (e s).toInt32
theorem RWt_f {cs : CS} {ms : MS} : RWt cs ms = RWf (ca cs 10) (mb ms 55) (mb ms 58) (mb ms 56) (mb ms 57) (mb ms 59) := rfl
theorem RWf_sell {W : Nat → Int32} {a b c d e : Nat → Int64} {s : Nat} {g : Int32} (h : RWf W a b c d e) : RWf (mvW W s 2 3 g) a (vp_updL b s (b s - g.toInt64)) (vp_updL c s (c s + g.toInt64)) d e := by
  intro z hz
  obtain ⟨a0, a1, a2, a3, a4, a5⟩ := h z hz
  unfold mvW
  by_cases q : z = s
  · subst q
    simp only [updL_eq, Int64.toInt32_sub, Int64.toInt32_add, Int32.toInt32_toInt64] at a1 ⊢
    refine ⟨?_, ?_, ?_, ?_, ?_, ?_⟩ <;> simp [upd_at] <;> grind
  · have n : ∀ x y, x < 6 → y < 6 → 6 * z + x ≠ 6 * s + y := by omega
    have n0 : ∀ y, y < 6 → 6 * z ≠ 6 * s + y := by omega
    simp only [updL_ne q]
    rw [upd_ne (by omega), upd_ne (by omega), upd_ne (by omega), upd_ne (by omega), upd_ne (by omega), upd_ne (by omega), upd_ne (by omega), upd_ne (by omega), upd_ne (by omega), upd_ne (by omega), upd_ne (by omega), upd_ne (by omega)]
    exact ⟨a0, a1, a2, a3, a4, a5⟩
theorem RWf_back {W : Nat → Int32} {a b c d e : Nat → Int64} {s : Nat} {g : Int32} (h : RWf W a b c d e) : RWf (mvW W s 3 2 g) a (vp_updL b s (b s + g.toInt64)) (vp_updL c s (c s - g.toInt64)) d e := by
  intro z hz
  obtain ⟨a0, a1, a2, a3, a4, a5⟩ := h z hz
  unfold mvW
  by_cases q : z = s
  · subst q
    simp only [updL_eq, Int64.toInt32_sub, Int64.toInt32_add, Int32.toInt32_toInt64] at a1 ⊢
    refine ⟨?_, ?_, ?_, ?_, ?_, ?_⟩ <;> simp [upd_at] <;> grind
  · simp only [updL_ne q]
    rw [upd_ne (by omega), upd_ne (by omega), upd_ne (by omega), upd_ne (by omega), upd_ne (by omega), upd_ne (by omega), upd_ne (by omega), upd_ne (by omega), upd_ne (by omega), upd_ne (by omega), upd_ne (by omega), upd_ne (by omega)]
    exact ⟨a0, a1, a2, a3, a4, a5⟩
theorem RWf_bad {W : Nat → Int32} {a b c d e : Nat → Int64} {s : Nat} {g : Int32} (h : RWf W a b c d e) : RWf (mvW W s 3 5 g) a b (vp_updL c s (c s - g.toInt64)) d (vp_updL e s (e s + g.toInt64)) := by
  intro z hz
  obtain ⟨a0, a1, a2, a3, a4, a5⟩ := h z hz
  unfold mvW
  by_cases q : z = s
  · subst q
    simp only [updL_eq, Int64.toInt32_sub, Int64.toInt32_add, Int32.toInt32_toInt64] at a1 ⊢
    refine ⟨?_, ?_, ?_, ?_, ?_, ?_⟩ <;> simp [upd_at] <;> grind
  · simp only [updL_ne q]
    rw [upd_ne (by omega), upd_ne (by omega), upd_ne (by omega), upd_ne (by omega), upd_ne (by omega), upd_ne (by omega), upd_ne (by omega), upd_ne (by omega), upd_ne (by omega), upd_ne (by omega), upd_ne (by omega), upd_ne (by omega)]
    exact ⟨a0, a1, a2, a3, a4, a5⟩
theorem RWf_take {W : Nat → Int32} {a b c d e : Nat → Int64} {s : Nat} {g : Int32} (h : RWf W a b c d e) : RWf (mvW W s 1 2 g) a (vp_updL b s (b s + g.toInt64)) c d e := by
  intro z hz
  obtain ⟨a0, a1, a2, a3, a4, a5⟩ := h z hz
  unfold mvW
  by_cases q : z = s
  · subst q
    simp only [updL_eq, Int64.toInt32_sub, Int64.toInt32_add, Int32.toInt32_toInt64] at a1 ⊢
    refine ⟨?_, ?_, ?_, ?_, ?_, ?_⟩ <;> simp [upd_at] <;> grind
  · simp only [updL_ne q]
    rw [upd_ne (by omega), upd_ne (by omega), upd_ne (by omega), upd_ne (by omega), upd_ne (by omega), upd_ne (by omega), upd_ne (by omega), upd_ne (by omega), upd_ne (by omega), upd_ne (by omega), upd_ne (by omega), upd_ne (by omega)]
    exact ⟨a0, a1, a2, a3, a4, a5⟩
theorem RWf_undo {W : Nat → Int32} {a b c d e : Nat → Int64} {s : Nat} {g : Int32} (h : RWf W a b c d e) : RWf (mvW W s 2 1 g) a (vp_updL b s (b s - g.toInt64)) c d e := by
  intro z hz
  obtain ⟨a0, a1, a2, a3, a4, a5⟩ := h z hz
  unfold mvW
  by_cases q : z = s
  · subst q
    simp only [updL_eq, Int64.toInt32_sub, Int64.toInt32_add, Int32.toInt32_toInt64] at a1 ⊢
    refine ⟨?_, ?_, ?_, ?_, ?_, ?_⟩ <;> simp [upd_at] <;> grind
  · simp only [updL_ne q]
    rw [upd_ne (by omega), upd_ne (by omega), upd_ne (by omega), upd_ne (by omega), upd_ne (by omega), upd_ne (by omega), upd_ne (by omega), upd_ne (by omega), upd_ne (by omega), upd_ne (by omega), upd_ne (by omega), upd_ne (by omega)]
    exact ⟨a0, a1, a2, a3, a4, a5⟩
/-! ===== cars and items over a move ===== -/
theorem RCr_cpI {cs : CS} {ms : MS} (h : RCr cs ms) {a f : Nat} {x : Int32} (ha : ck cs a = 1) : RCr (cpU cs a f x) ms := by
  obtain ⟨n, hn, h1, h2, h3, h4⟩ := h
  refine ⟨n, hn, h1, h2, fun c hc => ?_, h4⟩
  obtain ⟨hr, a', x1, x2, x3, y0, y1, y2, y3, y4, y5, y6, y7, y8⟩ := h3 c hc
  have hne : a' ≠ a := fun q => by rw [q, ha] at x3; exact absurd x3 (by decide)
  refine ⟨hr, a', x1, x2, x3, ?_, ?_, ?_, ?_, ?_, ?_, ?_, ?_, ?_⟩ <;> rw [cp_ne hne] <;> assumption
theorem cnt0_upd {f : Nat → Int32} {i : Nat} {v : Int32} : ∀ n, cnt0 (upd f i v) n + (if i < n ∧ f i = 0 then 1 else 0) = cnt0 f n + (if i < n ∧ v = 0 then 1 else 0) := by
  intro n
  induction n with
  | zero => simp [cnt0]
  | succ n ih =>
    rw [cnt0, cnt0, upd_at]
    by_cases q : n = i
    · subst q
      have e1 : cnt0 (upd f n v) n = cnt0 f n := by simpa using ih
      rw [e1]
      simp
      omega
    · rw [if_neg q]
      have e : ∀ P : Prop, ((i < n + 1 ∧ P) ↔ (i < n ∧ P)) := fun P => ⟨fun z => ⟨by omega, z.2⟩, fun z => ⟨by omega, z.2⟩⟩
      simp only [e]
      omega
theorem cnt0_pos {f : Nat → Int32} {i : Nat} : ∀ n, i < n → f i = 0 → 0 < cnt0 f n := by
  intro n
  induction n with
  | zero => intro h; omega
  | succ n ih =>
    intro h e
    rw [cnt0]
    by_cases q : i = n
    · subst q; rw [if_pos e]; omega
    · have := ih (by omega) e
      omega
theorem RIt_set {cs cs' : CS} {ms ms' : MS} (hI : RIt cs ms) {i a w : Nat} {d : Int32} (hi : i < 400) (hlt : nI i < mi ms 12) (hA : ItemAt cs ms i a) (hw : w ≤ 3)
    (e1 : ci cs' 1 = ci cs 1) (e12 : mi ms' 12 = mi ms 12) (eg : cg cs' 9 = cg cs 9) (el : cl cs' = cl cs) (ek : ck cs' = ck cs) (ep : ∀ b k, b ≠ a → cp cs' b k = cp cs b k) (ep0 : cp cs' a 0 = cp cs a 0) (ep1 : cp cs' a 1 = cp cs a 1) (ep2 : cp cs' a 2 = cp cs a 2) (p3 : cp cs' a 3 = nI w) (p4 : cp cs' a 4 = d) (e46 : ma ms' 46 = ma ms 46) (e49 : ma ms' 49 = ma ms 49) (e9 : mi ms' 9 = mi ms 9) (e63 : ma ms' 63 = ma ms 63) (e64 : ma ms' 64 = ma ms 64) (m65 : ma ms' 65 = upd (ma ms 65) i (nI w)) (m66 : ma ms' 66 = upd (ma ms 66) i d) (m67 : ∀ j, j ≠ i → ma ms' 67 j = ma ms 67 j) (p5 : w = 1 → cp cs' a 5 = ma ms' 67 i)
    (hc : ∀ n, n ≤ 60 → ci cs 2 = nI n → mi ms 13 = nI n → (ma ms 65 i = 0 → 0 < n) → ∃ n', n' ≤ 60 ∧ ci cs' 2 = nI n' ∧ mi ms' 13 = nI n' ∧ n' + (if ma ms 65 i = 0 then 1 else 0) = n + (if w = 0 then 1 else 0)) : RIt cs' ms' := by
  obtain ⟨n, hn, h1, h2, h3, h4, h5, h6, h7⟩ := hI
  have hin : i < n := by rw [h2] at hlt; exact (nI_lt_iff (by omega) (by omega)).mp hlt
  have hz : nI w = 0 ↔ w = 0 := ⟨fun q => nI_inj (b := 0) (by omega) (by omega) q, fun q => by rw [q]; rfl⟩
  have hcu : cnt0 (ma ms' 65) n + (if ma ms 65 i = 0 then 1 else 0) = cnt0 (ma ms 65) n + (if w = 0 then 1 else 0) := by
    have := cnt0_upd (f := ma ms 65) (i := i) (v := nI w) n
    rw [m65]
    simp only [hin, true_and, hz] at this
    exact this
  obtain ⟨n', k1, k2, k3, k4⟩ := hc _ h5 h6 h7 (fun q => cnt0_pos n hin q)
  obtain rfl : n' = cnt0 (ma ms' 65) n := by omega
  refine ⟨n, hn, e1.trans h1, e12.trans h2, fun j hj => ?_, by rw [eg]; exact h4, k1, k2, k3⟩
  obtain ⟨⟨⟨u, hu, r1⟩, c, p, r2, r3, r4, r5, r6, r7⟩, b, x1, x2, x3, y0, y2, y3, y4, y5, y1⟩ := h3 j hj
  by_cases q : j = i
  · subst q
    obtain rfl : b = a := Option.some.inj (x1.symm.trans hA.1)
    refine ⟨⟨⟨w, hw, by rw [m65, upd_eq]⟩, c, p, r2, by rw [e63]; exact r3, by rw [e9]; exact r4, r5, by rw [e64]; exact r6, by rw [e49]; exact r7⟩, b, by rw [eg]; exact x1, by rw [el]; exact x2, by rw [ek]; exact x3, by rw [ep0, e63]; exact y0, by rw [ep2, e64]; exact y2, by rw [p3, m65, upd_eq], by rw [p4, m66, upd_eq], fun z => p5 ?_, fun c1 z1 z2 => by rw [ep1, e46]; exact y1 c1 (by rw [← e63]; exact z1) z2⟩
    rw [m65, upd_eq] at z
    exact nI_inj (b := 1) (by omega) (by omega) z
  · have hne : b ≠ a := fun z => q (h4 j i a hj hin (z ▸ x1) hA.1)
    refine ⟨⟨⟨u, hu, by rw [m65, upd_ne q]; exact r1⟩, c, p, r2, by rw [e63]; exact r3, by rw [e9]; exact r4, r5, by rw [e64]; exact r6, by rw [e49]; exact r7⟩, b, by rw [eg]; exact x1, by rw [el]; exact x2, by rw [ek]; exact x3, by rw [ep _ _ hne, e63]; exact y0, by rw [ep _ _ hne, e64]; exact y2, by rw [ep _ _ hne, m65, upd_ne q]; exact y3, by rw [ep _ _ hne, m66, upd_ne q]; exact y4, fun z => ?_, fun c1 z1 z2 => by rw [ep _ _ hne, e46]; exact y1 c1 (by rw [← e63]; exact z1) z2⟩
    rw [m65, upd_ne q] at z
    rw [ep _ _ hne, m67 _ q]
    exact y5 z

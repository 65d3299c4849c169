/-! ===== part, the two sides together ===== -/
theorem n64 {x : Int64} (h0 : 0 ≤ x.toInt) (h1 : x.toInt < 2 ^ 31) : ∃ k : Nat, (k : Int) = x.toInt ∧ x.toInt32 = nI k := by
  refine ⟨x.toInt.toNat, by omega, Int32.toInt_inj.mp ?_⟩
  rw [Int64.toInt_toInt32, nI_toInt (by omega), Int.bmod_eq_of_le] <;> omega
theorem n64m {x : Int64} (h : x.toInt = -1) : x.toInt32 = -1 := by
  have : x = -1 := Int64.toInt_inj.mp h
  rw [this]; rfl
theorem store_loop {cs : CS} {ms : MS} {m n r k : Nat} (hm : m < 8) (hn : n < 24) (e20 : ca cs 20 m = nI (n + 1)) (hR : RowAt cs ms r k) : ∀ (f w : Nat) (G : Nat → Int32), w ≤ 8 → 9 ≤ w + f → ∃ G', f_X8_addPart_12 f (caS cs 21 G) (nI m) (nI r) (nI n) (nI w) = some (nI n, caS cs 21 G') ∧ (∀ j, w ≤ j → j < 8 → G' (8 * (24 * m + n) + j) = (rowX ms r k j).toInt32) ∧ ∀ z, (∀ j, w ≤ j → j < 8 → z ≠ 8 * (24 * m + n) + j) → G' z = G z := by
  intro f
  induction f with
  | zero => intro w G h1 h2; omega
  | succ f ih =>
    intro w G h1 h2
    rw [f_X8_addPart_12]
    by_cases q : w = 8
    · subst q
      rw [if_pos (by decide)]
      exact ⟨G, rfl, fun j a b => by omega, fun z _ => rfl⟩
    have hR' : RowAt (caS cs 21 G) ms r k := hR
    have e20' : ca (caS cs 21 G) 20 m = nI (n + 1) := e20
    have hpl : f_X6_placeOf (caS cs 21 G) (nI m) (nI n) (nI w) = some (nI (8 * (24 * m + n) + w)) := by
      unfold f_X6_placeOf f_X6_placeOf_28
      rw [if_neg (nI_pos (by omega)), parts_n hm, some_bind, e20', if_neg (nI_ge (by omega) (by omega)), if_neg (nI_pos (by omega)), l8, if_neg (nI_ge (by omega) (by omega)), if_neg one_ne, l24, nI_mul, nI_add, nI_mul, nI_add, l1536, if_neg (nI_pos (by omega)), if_neg (nI_ge (by omega) (by omega))]
      rw [show (m * 24 + n) * 8 + w = 8 * (24 * m + n) + w by omega]
    unfold f_X6_store
    rw [if_neg (show ¬ (8 : Int32) ≤ nI w from nI_ge (b := 8) (by omega) (by omega)), says_row hR' (by omega), some_bind, hpl, some_bind, if_neg (nI_ne_neg (by omega)), ixr_n (by omega) (by omega), nI_clamp (by omega), some_bind, caS_caU, nI_1]
    obtain ⟨G', e1, e2, e3⟩ := ih (w + 1) (upd G (8 * (24 * m + n) + w) (rowX ms r k w).toInt32) (by omega) (by omega)
    refine ⟨G', e1, fun j a b => ?_, fun z hz => ?_⟩
    · by_cases s : j = w
      · rw [s, e3 _ (fun j' a' b' => by omega), upd_eq]
      · exact e2 j (by omega) b
    · rw [e3 z (fun j a b => hz j (by omega) b), upd_ne (hz w (Nat.le_refl _) (by omega))]
def ptM (ms : MS) (m n r k : Nat) : MS := maU (maU (maU (maU (maU (maU (maU (maU (maU (miU ms 0 0) 38 (24 * m + n) (rowX ms r k 0).toInt32) 39 (24 * m + n) (rowX ms r k 1).toInt32) 40 (24 * m + n) (rowX ms r k 2).toInt32) 41 (24 * m + n) (rowX ms r k 3).toInt32) 42 (24 * m + n) (rowX ms r k 4).toInt32) 43 (24 * m + n) (rowX ms r k 5).toInt32) 44 (24 * m + n) (rowX ms r k 6).toInt32) 45 (24 * m + n) (rowX ms r k 7).toInt32) 37 m (nI (n + 1))
theorem put9 {ms : MS} {m n r k : Nat} (hm : m < 8) (hn : n < 24) (e37 : ma ms 37 m = nI n) (hr : r < 128) (hk7 : 7 ≤ k) (hk : k ≤ 12) (kk : MS → Int32 → Int32 → Int32 → Int32 → Int32 → Int32 → Int32 → Option (Int32 × MS)) : f_X9_part_263 kk (miU ms 0 0) (nI m) (nI r) (nI k) (rowX ms r k 0).toInt32 (rowX ms r k 2).toInt32 = some (nI n, ptM ms m n r k) := by
  have hm31 : m < 2 ^ 31 := by omega
  have hz : 24 * m + n < 192 := by omega
  have hz31 : 24 * m + n < 2 ^ 31 := by omega
  have n24 : ¬ nI n = (24 : Int32) := fun z => by
    have := nI_inj (b := 24) (by omega) (by omega) z
    omega
  have L : ∀ j, j < 8 → (j < k) → ldL (mb ms 29) 1536 (nI (12 * r + j)) = some (rowX ms r k j) := fun j h1 h2 => by
    rw [ldL_n (by omega) (by omega)]
    unfold rowX
    rw [if_pos h2]
  have L1 := L 1 (by omega) (by omega)
  have L3 := L 3 (by omega) (by omega)
  have L4 := L 4 (by omega) (by omega)
  have L5 := L 5 (by omega) (by omega)
  have L6 := L 6 (by omega) (by omega)
  have a1 : nI (12 * r) + 1 = nI (12 * r + 1) := nI_add _ 1
  have a3 : nI (12 * r) + 3 = nI (12 * r + 3) := nI_add _ 3
  have a4 : nI (12 * r) + 4 = nI (12 * r + 4) := nI_add _ 4
  have a5 : nI (12 * r) + 5 = nI (12 * r + 5) := nI_add _ 5
  have a6 : nI (12 * r) + 6 = nI (12 * r + 6) := nI_add _ 6
  have a7 : nI (12 * r) + 7 = nI (12 * r + 7) := nI_add _ 7
  have last : ∀ (X : MS) (v : Int32), ma X 37 m = nI n → f_X9_part_440 kk X (nI m) (nI (24 * m + n)) v = some (nI n, maU (maU X 45 (24 * m + n) v) 37 m (nI (n + 1))) := by
    intro X v hX
    unfold f_X9_part_440
    simp only [ixr_n hz hz31, nI_clamp hz31, ldI_n hm hm31, pa_4, pa_5 (show (37 : Nat) ≠ 45 by decide), hX, some_bind, ixr_n hm hm31, nI_clamp hm31, upd_eq, nI_1]
    rw [nI_sub1 (by omega), Nat.add_sub_cancel]
  unfold f_X9_part_263
  simp only [l24, l12, nI_mul, ldI_n hm hm31, pa_1, e37, some_bind, nI_add, ixr_n hz hz31, nI_clamp hz31, pb_1, pb_3, a1, a3, a4, a5, a6, a7, L1, L3, L4, L5, L6]
  rw [if_neg (show ¬ nI n = nI 24 from n24)]
  by_cases k8 : k ≤ 7
  · rw [if_pos (show nI k ≤ (7 : Int32) from nI_le (b := 7) k8 (by omega))]
    have x7 : (rowX ms r k 7).toInt32 = -1 := by unfold rowX; rw [if_neg (by omega)]; rfl
    refine (last _ _ ?_).trans ?_
    · exact e37
    · unfold ptM
      rw [x7]
  · have L7 := L 7 (by omega) (by omega)
    rw [if_neg (show ¬ nI k ≤ (7 : Int32) from nI_ge (a := 7) (by omega) (by omega)), L7, some_bind]
    refine (last _ _ ?_).trans ?_
    · exact e37
    · rfl
theorem RCr_part {cs : CS} {ms ms' : MS} (h : RCr cs ms) {m n : Nat} (hm : m < 8) (hn : n < 24) (e37 : ma ms 37 m = nI n) (e9 : mi ms' 9 = mi ms 9) (a37 : ma ms' 37 = upd (ma ms 37) m (nI (n + 1))) (hr : ∀ j, 46 ≤ j → j ≤ 54 → ma ms' j = ma ms j) : RCr cs ms' := by
  obtain ⟨n9, hn9, i1, i2, i3, i4⟩ := h
  refine ⟨n9, hn9, i1, e9.trans i2, fun c hc => ?_, i4⟩
  obtain ⟨⟨z1, z2, z3, m', k, k', o, r1, r2, r3, r4, r5, r6, r7, r8, r9⟩, a, ha⟩ := i3 c hc
  refine ⟨?_, a, ?_⟩
  · unfold CRng
    rw [hr 52 (by omega) (by omega), hr 53 (by omega) (by omega), hr 54 (by omega) (by omega), hr 50 (by omega) (by omega), hr 46 (by omega) (by omega), hr 49 (by omega) (by omega), a37]
    refine ⟨z1, z2, z3, m', k, if m' = m then n + 1 else k', o, r1, r2, r3, ?_, ?_, r6, ?_, r8, r9⟩
    · by_cases q : m' = m
      · subst q
        have : k' = n := nI_inj (by omega) (by omega) (r7.symm.trans e37)
        rw [if_pos rfl]; omega
      · rw [if_neg q]; exact r4
    · split <;> omega
    · by_cases q : m' = m
      · subst q
        rw [if_pos rfl, upd_eq]
      · rw [if_neg q, upd_ne q]; exact r7
  · unfold CarAt
    rw [hr 46 (by omega) (by omega), hr 47 (by omega) (by omega), hr 48 (by omega) (by omega), hr 49 (by omega) (by omega), hr 50 (by omega) (by omega), hr 51 (by omega) (by omega), hr 52 (by omega) (by omega), hr 53 (by omega) (by omega), hr 54 (by omega) (by omega)]
    exact ha
theorem RMd_part {cs cs' : CS} {ms ms' : MS} (h : RMd cs ms) {m n r k M : Nat} (hm : m < 8) (hn : n < 24) (hM : M ≤ 30) (e3 : mi ms 3 = nI M) (e20 : ca cs 20 m = nI n) (e37 : ma ms 37 m = nI n) (hok : ∀ j, j < 8 → okN ms r k n M j) (em : mi ms' 3 = mi ms 3) (a20 : ca cs' 20 = upd (ca cs 20) m (nI (n + 1))) (a37 : ma ms' 37 = upd (ma ms 37) m (nI (n + 1)))
    (g1 : ∀ j, j < 8 → ca cs' 21 (8 * (24 * m + n) + j) = (rowX ms r k j).toInt32) (g2 : ∀ z, (∀ j, j < 8 → z ≠ 8 * (24 * m + n) + j) → ca cs' 21 z = ca cs 21 z)
    (b : ∀ j, j < 8 → ma ms' (38 + j) = upd (ma ms (38 + j)) (24 * m + n) (rowX ms r k j).toInt32) : RMd cs' ms' := by
  have b0 := b 0 (by omega)
  have b1 := b 1 (by omega)
  have b2 := b 2 (by omega)
  have b3 := b 3 (by omega)
  have b4 := b 4 (by omega)
  have b5 := b 5 (by omega)
  have b6 := b 6 (by omega)
  have b7 := b 7 (by omega)
  simp only [Nat.reduceAdd] at b0 b1 b2 b3 b4 b5 b6 b7
  intro m' hm'
  have old : ∀ p np, p < 24 → (m' ≠ m ∨ p ≠ n) → PRng ms (24 * m' + p) np ∧ FEq cs ms (24 * m' + p) → PRng ms' (24 * m' + p) np ∧ FEq cs' ms' (24 * m' + p) := by
    intro p np hp hne hh
    have hz : 24 * m' + p ≠ 24 * m + n := by omega
    have g3 : ∀ w, w < 8 → ca cs' 21 (8 * (24 * m' + p) + w) = ca cs 21 (8 * (24 * m' + p) + w) := fun w hw => g2 _ (fun j hj => by omega)
    have h0 : ca cs' 21 (8 * (24 * m' + p)) = ca cs 21 (8 * (24 * m' + p)) := g3 0 (by omega)
    unfold PRng FEq at hh ⊢
    rw [b0, b1, b2, b3, b4, b5, b6, b7, em, h0, g3 1 (by omega), g3 2 (by omega), g3 3 (by omega), g3 4 (by omega), g3 5 (by omega), g3 6 (by omega), g3 7 (by omega)]
    simp only [upd_ne hz]
    exact hh
  obtain ⟨n', hn', c1, c2, c3⟩ := h m' hm'
  by_cases q : m' = m
  · subst q
    obtain rfl : n = n' := nI_inj (by omega) (by omega) (e20.symm.trans c1)
    refine ⟨n + 1, by omega, by rw [a20, upd_eq], by rw [a37, upd_eq], fun p hp => ?_⟩
    by_cases z : p = n
    · subst z
      have k0 := hok 0 (by omega)
      have k1 := hok 1 (by omega)
      have k2 := hok 2 (by omega)
      have k3 := hok 3 (by omega)
      have k4 := hok 4 (by omega)
      have k5 := hok 5 (by omega)
      have k6 := hok 6 (by omega)
      have k7 := hok 7 (by omega)
      unfold okN at k0 k1 k2 k3 k4 k5 k6 k7
      simp [plo, phi] at k0 k1 k2 k3 k4 k5 k6 k7
      unfold PRng FEq
      rw [b0, b1, b2, b3, b4, b5, b6, b7, em, e3]
      simp only [upd_eq]
      refine ⟨⟨?_, ?_, ?_, ?_, ?_, ?_, ?_, ?_⟩, g1 0 (by omega), g1 1 (by omega), g1 2 (by omega), g1 3 (by omega), g1 4 (by omega), g1 5 (by omega), g1 6 (by omega), g1 7 (by omega)⟩
      · obtain ⟨x, x1, x2⟩ := n64 k0.1 (by omega)
        exact ⟨x, by omega, x2⟩
      · obtain ⟨x, x1, x2⟩ := n64 k1.1 (by omega)
        exact ⟨x, by omega, x2⟩
      · by_cases y : (rowX ms r k 2).toInt = -1
        · exact Or.inl (n64m y)
        · obtain ⟨x, x1, x2⟩ := n64 (x := rowX ms r k 2) (by omega) (by omega)
          exact Or.inr ⟨x, by omega, x2⟩
      · obtain ⟨x, x1, x2⟩ := n64 (x := rowX ms r k 3) (by omega) (by omega)
        exact ⟨x, by omega, by omega, x2⟩
      · obtain ⟨x, x1, x2⟩ := n64 (x := rowX ms r k 4) (by omega) (by omega)
        exact ⟨x, by omega, by omega, x2⟩
      · obtain ⟨x, x1, x2⟩ := n64 k5.1 (by omega)
        exact ⟨x, by omega, x2⟩
      · obtain ⟨x, x1, x2⟩ := n64 k6.1 (by omega)
        exact ⟨x, by omega, x2⟩
      · by_cases y : (rowX ms r k 7).toInt = -1
        · exact Or.inl (n64m y)
        · obtain ⟨x, x1, x2⟩ := n64 (x := rowX ms r k 7) (by omega) (by omega)
          exact Or.inr ⟨x, by omega, x2, nI_lt (by omega) (by omega)⟩
    · exact old p p (by omega) (Or.inr z) (c3 p (by omega))
  · exact ⟨n', hn', by rw [a20, upd_ne q]; exact c1, by rw [a37, upd_ne q]; exact c2, fun p hp => old p p (by omega) (Or.inl q) (c3 p hp)⟩

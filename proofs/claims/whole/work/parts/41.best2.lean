/-! ===== the reference's gains, and the way up on both sides ===== -/
theorem sum9_loop {cs : CS} {ms : MS} {c a m k k' : Nat} (h : CL cs ms c a m k k') (w : Int32) : ∀ (f i : Nat) (G : Nat → Int32), i ≤ k → i + 1 ≤ f → f_X9_findBest_64 f (maS ms 71 G) (nI c) w (nI (24 * m)) (nI i - 1) = f_X9_findBest_263 1000 (maS ms 71 (run (st9 (Mf ms c m) (ownf ms m w) (Pf ms c m k)) i G)) (nI c) (nI (24 * m)) 0 0 := by
  intro f
  induction f with
  | zero => intro i G h1 h2; omega
  | succ f ih =>
    intro i G h1 h2
    rw [f_X9_findBest_64]
    by_cases q : i = 0
    · subst q
      rw [if_pos (show nI 0 - 1 < 0 by decide)]
      rfl
    obtain ⟨p, rfl⟩ : ∃ p, i = p + 1 := ⟨i - 1, by omega⟩
    have hk24 : k ≤ 24 := by have := h.2.2.2.2.2.2.1; have := h.2.2.2.2.2.2.2.1; omega
    have hp24 : p < 24 := by omega
    have hp31 : p < 2 ^ 31 := by omega
    obtain ⟨hMd, hc, hA, hm, g1, g2, hkk, hk', g3⟩ := id h
    have hc31 : c < 2 ^ 31 := by omega
    have hz : 24 * m + p < 192 := by omega
    have hz31 : 24 * m + p < 2 ^ 31 := by omega
    have e38 : ∀ W, ma (maS ms 71 W) 38 = ma ms 38 := fun _ => rfl
    have e40 : ∀ W, ma (maS ms 71 W) 40 = ma ms 40 := fun _ => rfl
    have e41 : ∀ W, ma (maS ms 71 W) 41 = ma ms 41 := fun _ => rfl
    have e44 : ∀ W, ma (maS ms 71 W) 44 = ma ms 44 := fun _ => rfl
    have e50 : ∀ W, ma (maS ms 71 W) 50 = ma ms 50 := fun _ => rfl
    have e52 : ∀ W, ma (maS ms 71 W) 52 = ma ms 52 := fun _ => rfl
    have e71 : ∀ W, ma (maS ms 71 W) 71 = W := fun _ => rfl
    have er : run (st9 (Mf ms c m) (ownf ms m w) (Pf ms c m k)) (p + 1) G = run (st9 (Mf ms c m) (ownf ms m w) (Pf ms c m k)) p (st9 (Mf ms c m) (ownf ms m w) (Pf ms c m k) p G) := rfl
    have hon : ∀ (W : Nat → Int32) (x : Int32), f_X9_isOn (maS ms 71 W) (nI c) x = some (onb (ma ms 50 c) x) := fun W x => isOn9 (ms := maS ms 71 W) hc
    have no : Mf ms c m p = false → f_X9_findBest_122 (f_X9_findBest_64 f) (maS ms 71 G) (nI c) w (nI (24 * m)) (nI p) (ma ms 38 (24 * m + p)) 0 = f_X9_findBest_263 1000 (maS ms 71 (run (st9 (Mf ms c m) (ownf ms m w) (Pf ms c m k)) (p + 1) G)) (nI c) (nI (24 * m)) 0 0 := by
      intro mm
      unfold f_X9_findBest_122 f_X9_findBest_251
      rw [if_pos rfl, ixr_n hp24 hp31, nI_clamp hp31, maS_maU, m1_sub, er]
      unfold st9
      rw [if_neg (by rw [mm]; simp)]
      exact ih p _ (by omega) (by omega)
    have s183 : Mf ms c m p = true → ∀ x, x - ma ms 41 (24 * m + p) * w = ownf ms m w p → f_X9_findBest_183 (f_X9_findBest_64 f) (maS ms 71 G) (nI c) w (nI (24 * m)) (nI p) (nI p) (G p) x = f_X9_findBest_263 1000 (maS ms 71 (run (st9 (Mf ms c m) (ownf ms m w) (Pf ms c m k)) (p + 1) G)) (nI c) (nI (24 * m)) 0 0 := by
      intro mm x hx
      unfold f_X9_findBest_183 f_X9_findBest_251
      simp only [nI_add, e41, ldI_n hz hz31, some_bind, ixr_n hp24 hp31, nI_clamp hp31, maS_maU, e40, e71, ldI_n hp24 hp31, upd_eq, hx, m1_sub, er, hon]
      unfold st9
      rw [if_pos mm]
      by_cases y : G p + ownf ms m w p ≤ 0
      · rw [if_pos y, if_pos y]
        exact ih p _ (by omega) (by omega)
      rw [if_neg y, if_neg y]
      rcases H_cases h (q := p) (by omega) with ⟨h40, eH⟩ | ⟨j, hj, h40, eH⟩
      · have eP : Pf ms c m k p = none := by unfold Pf; rw [eH]
        rw [h40, eP, if_pos rfl]
        exact ih p _ (by omega) (by omega)
      · have hj31 : j < 2 ^ 31 := by omega
        rw [h40, if_neg (nI_ne_neg hj31)]
        by_cases o : onb (ma ms 50 c) (nI j) = 0
        · have eP : Pf ms c m k p = none := by unfold Pf; rw [eH]; exact if_neg (by rw [Onf_0.mpr o]; simp)
          rw [if_pos o, eP]
          exact ih p _ (by omega) (by omega)
        · have o' : Onf ms c j = true := by
            cases z : Onf ms c j with
            | true => rfl
            | false => exact absurd (Onf_0.mp z) o
          have eP : Pf ms c m k p = some j := by unfold Pf; rw [eH]; exact if_pos o'
          rw [if_neg o, eP, ldI_n (by omega) hj31, some_bind, ixr_n (by omega) hj31, nI_clamp hj31]
          exact ih p _ (by omega) (by omega)
    have yes : Mf ms c m p = true → f_X9_findBest_122 (f_X9_findBest_64 f) (maS ms 71 G) (nI c) w (nI (24 * m)) (nI p) (ma ms 38 (24 * m + p)) 1 = f_X9_findBest_263 1000 (maS ms 71 (run (st9 (Mf ms c m) (ownf ms m w) (Pf ms c m k)) (p + 1) G)) (nI c) (nI (24 * m)) 0 0 := by
      intro mm
      unfold f_X9_findBest_122 f_X9_findBest_160
      simp only [if_neg one_ne, nI_add, e71, e44, ldI_n hp24 hp31, ldI_n hz hz31, some_bind]
      by_cases k2 : ma ms 38 (24 * m + p) = 2
      · rw [if_pos k2]
        exact s183 mm _ (by unfold ownf; rw [if_pos k2])
      rw [if_neg k2]
      by_cases k1 : ma ms 38 (24 * m + p) = 1
      · rw [if_pos k1]
        exact s183 mm _ (by unfold ownf; rw [if_neg k2, if_pos k1])
      · rw [if_neg k1]
        exact s183 mm _ (by unfold ownf; rw [if_neg k2, if_neg k1])
    rw [show nI (p + 1) - 1 = nI p by rw [nI_sub1 (by omega)]; rfl, if_neg (nI_pos hp31), nI_add, e38, ldI_n hz hz31, some_bind, hon, some_bind]
    unfold f_X9_findBest_121 f_X9_findBest_108 f_X9_findBest_121 f_X9_findBest_117
    rw [e52]
    by_cases o : onb (ma ms 50 c) (nI p) = 0
    · rw [if_pos o]
      exact no (by unfold Mf; rw [Onf_0.mpr o]; rfl)
    have o' : Onf ms c p = true := by
      cases z : Onf ms c p with
      | true => rfl
      | false => exact absurd (Onf_0.mp z) o
    rw [if_neg o]
    by_cases k5 : ma ms 38 (24 * m + p) = 5
    · rw [if_pos k5]
      exact no (by unfold Mf; rw [k5]; simp)
    rw [if_neg k5]
    by_cases k3 : ma ms 38 (24 * m + p) = 3
    · rw [if_pos k3, ldI_n hc hc31, some_bind]
      by_cases d : ma ms 52 c = 0
      · rw [if_pos d]
        exact no (by unfold Mf; rw [d, k3]; simp)
      · rw [if_neg d]
        exact yes (by unfold Mf; rw [o']; simp [k5, d])
    rw [if_neg k3]
    by_cases k4 : ma ms 38 (24 * m + p) = 4
    · rw [if_pos k4, ldI_n hc hc31, some_bind]
      by_cases d : ma ms 52 c = 0
      · rw [if_pos d]
        exact no (by unfold Mf; rw [d, k4]; simp)
      · rw [if_neg d]
        exact yes (by unfold Mf; rw [o']; simp [k5, d])
    · rw [if_neg k4]
      exact yes (by unfold Mf; rw [o']; simp [k5, k3, k4])
theorem zero9_loop {ms : MS} {c k : Nat} (hc : c < 40) (g2 : ma ms 49 c = nI k) (hk : k ≤ 24) (w x : Int32) : ∀ (f i : Nat) (G : Nat → Int32), i ≤ k → k + 1 ≤ i + f → ∃ G', f_X9_findBest_29 f (maS ms 71 G) (nI c) w x (nI i) = f_X9_findBest_64 1000 (maS ms 71 G') (nI c) w x (nI k - 1) ∧ ∀ j, j < k → (i ≤ j ∨ G j = 0) → G' j = 0 := by
  intro f
  induction f with
  | zero => intro i G h1 h2; omega
  | succ f ih =>
    intro i G h1 h2
    have g2' : ma (maS ms 71 G) 49 c = nI k := g2
    rw [f_X9_findBest_29, ldI_n hc (by omega), some_bind, g2']
    by_cases q : i = k
    · subst q
      rw [if_pos (nI_le (Nat.le_refl _) (by omega)), some_bind]
      exact ⟨G, rfl, fun j hj h => h.resolve_left (by omega)⟩
    · rw [if_neg (nI_ge (by omega) (by omega)), ixr_n (by omega) (by omega), nI_clamp (by omega), maS_maU, nI_1]
      obtain ⟨G', e, hz⟩ := ih (i + 1) (upd G i 0) (by omega) (by omega)
      refine ⟨G', e, fun j hj h => hz j hj ?_⟩
      by_cases z : j = i
      · right; rw [z, upd_eq]
      · rcases h with h | h
        · left; omega
        · right; rw [upd_ne z]; exact h
/-! a choice's bits -/
theorem bit_n {v q : Nat} (hv : v < 2 ^ 31) (hq : q < 31) : (nI v >>> (nI q &&& 31)) &&& 1 = if v.testBit q = true then 1 else 0 := by
  have hs : ∀ q, q < 31 → ((nI q &&& 31).toBitVec.smod 32#32).toNat = q := by decide
  rw [nI_shr hv _ q (hs q hq)]
  have e : nI (v / 2 ^ q) &&& 1 = nI (v / 2 ^ q % 2) := by
    apply Int32.toBitVec_inj.mp
    show BitVec.ofNat 32 (v / 2 ^ q) &&& BitVec.ofNat 32 1 = BitVec.ofNat 32 (v / 2 ^ q % 2)
    rw [← BitVec.ofNat_and, Nat.and_one_is_mod]
  rw [e, Nat.testBit_eq_decide_div_mod_eq]
  rcases Nat.mod_two_eq_zero_or_one (v / 2 ^ q) with z | z
  · rw [z]; rfl
  · rw [z]; rfl
theorem up8_loop {cs : CS} {ms : MS} {c a m k k' : Nat} (h : CL cs ms c a m k k') (F : Nat → Int32) (h11 : ∀ q, q < k → Mf ms c m q = true → ca cs 11 q = F q) : ∀ (f i v : Nat), i ≤ k → k + 1 ≤ i + f → v < 2 ^ i → f_X8_bestOf_11 f cs a (nI v) (nI i) = some (nI (asc (Mf ms c m) F (Pf ms c m k) (k - i) i v), cs) := by
  intro f
  induction f with
  | zero => intro i v h1 h2; omega
  | succ f ih =>
    intro i v h1 h2 hv
    obtain ⟨hMd, hc, hA, hm, g1, g2, hkk, hk', g3⟩ := id h
    obtain ⟨x1, x2, x3, y0, y1, y2, y3, -⟩ := id hA
    have hcl : a ∈ cl cs ∧ ck cs a = 0 := ⟨x2, x3⟩
    rw [f_X8_bestOf_11, gd_t hcl, y3, g2, y0, g1]
    by_cases q : i = k
    · subst q
      rw [if_pos (nI_le (Nat.le_refl _) (by omega)), Nat.sub_self]
      rfl
    have hik : i < k := by omega
    have hv31 : v < 2 ^ 31 := Nat.lt_of_lt_of_le hv (Nat.pow_le_pow_right (by omega) (by omega))
    obtain ⟨-, -, f2, -⟩ := fact_at hMd hm hk' g3 (p := i) (by omega)
    rw [if_neg (nI_ge hik (by omega)), if_neg (show ¬ (24 : Int32) ≤ nI i from nI_ge (b := 24) (by omega) (by omega)), f2, some_bind]
    obtain ⟨d, hd⟩ : ∃ d, k - i = d + 1 := ⟨k - i - 1, by omega⟩
    have hd2 : k - (i + 1) = d := by omega
    have easc : asc (Mf ms c m) F (Pf ms c m k) (k - i) i v = asc (Mf ms c m) F (Pf ms c m k) (k - (i + 1)) (i + 1) (chs (Mf ms c m) F (Pf ms c m k) i v) := by rw [hd, hd2]; rfl
    rw [easc]
    have nxt : ∀ v', v' = chs (Mf ms c m) F (Pf ms c m k) i v → f_X8_bestOf_11 f cs a (nI v') (nI i + 1) = some (nI (asc (Mf ms c m) F (Pf ms c m k) (k - (i + 1)) (i + 1) (chs (Mf ms c m) F (Pf ms c m k) i v)), cs) := by
      rintro v' rfl
      rw [nI_1]
      exact ih (i + 1) _ (by omega) (by omega) (chs_lt hv)
    have tail : ∀ s0 : Int32, ∀ b : Bool, (s0 = if b = true then 1 else 0) → rch (Pf ms c m k i) v = b → f_X8_bestOf_69 (f_X8_bestOf_11 f) cs a (nI v) (nI i) s0 = some (nI (asc (Mf ms c m) F (Pf ms c m k) (k - (i + 1)) (i + 1) (chs (Mf ms c m) F (Pf ms c m k) i v)), cs) := by
      intro s0 b hs hb
      unfold f_X8_bestOf_69 f_X8_bestOf_103
      rw [may8 h hik, some_bind]
      by_cases mm : Mf ms c m i = true
      · rw [if_pos mm, if_neg one_ne]
        cases b with
        | false =>
          rw [hs.trans (if_neg (by simp)), if_pos rfl]
          exact nxt v (by unfold chs pkd; rw [hb, Bool.and_false]; rfl)
        | true =>
          rw [hs.trans (if_pos rfl), if_neg one_ne, ldI_n (by omega) (by omega), some_bind, h11 i hik mm]
          by_cases x : F i ≤ 0
          · rw [if_pos x]
            exact nxt v (by unfold chs pkd; rw [decide_eq_true x]; simp)
          · rw [if_neg x, nI_bit (by omega), nI_or]
            exact nxt _ (by unfold chs pkd; rw [hb, mm, decide_eq_false x]; rfl)
      · rw [if_neg mm, if_pos rfl]
        exact nxt v (by unfold chs pkd; rw [show Mf ms c m i = false by cases z : Mf ms c m i; rfl; exact absurd z mm]; rfl)
    unfold f_X8_bestOf_64
    rcases H_cases h hik with ⟨h40, eH⟩ | ⟨j, hj, h40, eH⟩
    · rw [h40, isOn8_neg, some_bind, if_pos rfl]
      exact tail 1 true rfl (by unfold Pf; rw [eH]; rfl)
    · rw [h40, isOn8 hA g2 (show k ≤ 24 by omega) (show j < k by omega), some_bind]
      by_cases o : onb (ma ms 50 c) (nI j) = 0
      · rw [if_pos o]
        refine tail 1 true rfl ?_
        have eP : Pf ms c m k i = none := by unfold Pf; rw [eH]; exact if_neg (by rw [Onf_0.mpr o]; simp)
        rw [eP]; rfl
      · have o' : Onf ms c j = true := by
          cases z : Onf ms c j with
          | true => rfl
          | false => exact absurd (Onf_0.mp z) o
        have eP : Pf ms c m k i = some j := by unfold Pf; rw [eH]; exact if_pos o'
        rw [if_neg o]
        have hbt := bit_n (v := v) (q := j) hv31 (by omega)
        cases hb : v.testBit j with
        | true =>
          rw [hb] at hbt
          rw [hbt.trans (if_pos rfl), if_neg one_ne]
          exact tail 1 true rfl (by rw [eP]; exact hb)
        | false =>
          rw [hb] at hbt
          rw [hbt.trans (if_neg (by simp)), if_pos rfl]
          exact tail 0 false rfl (by rw [eP]; exact hb)
theorem up9_loop {cs : CS} {ms : MS} {c a m k k' : Nat} (h : CL cs ms c a m k k') (h71 : ∀ q, q < k → Mf ms c m q = false → ma ms 71 q ≤ 0) : ∀ (f i v : Nat) (w : Int32), i ≤ k → k + 1 ≤ i + f → v < 2 ^ i → f_X9_findBest_263 f (miU ms 15 w) (nI c) (nI (24 * m)) (nI v) (nI i) = some (nI (asc (Mf ms c m) (ma ms 71) (Pf ms c m k) (k - i) i v), miU ms 15 (ascw (Mf ms c m) (ma ms 71) (Pf ms c m k) (k - i) i v w)) := by
  intro f
  induction f with
  | zero => intro i v w h1 h2; omega
  | succ f ih =>
    intro i v w h1 h2 hv
    obtain ⟨hMd, hc, hA, hm, g1, g2, hkk, hk', g3⟩ := id h
    have hc31 : c < 2 ^ 31 := by omega
    have g2' : ma (miU ms 15 w) 49 c = nI k := g2
    have e40 : ma (miU ms 15 w) 40 = ma ms 40 := rfl
    have e71 : ma (miU ms 15 w) 71 = ma ms 71 := rfl
    rw [f_X9_findBest_263, ldI_n hc hc31, some_bind, g2']
    by_cases q : i = k
    · subst q
      rw [if_pos (nI_le (Nat.le_refl _) (by omega)), Nat.sub_self]
      rfl
    have hik : i < k := by omega
    have hv31 : v < 2 ^ 31 := Nat.lt_of_lt_of_le hv (Nat.pow_le_pow_right (by omega) (by omega))
    have hz : 24 * m + i < 192 := by omega
    rw [if_neg (nI_ge hik (by omega)), nI_add, e40, ldI_n hz (by omega), some_bind]
    obtain ⟨d, hd⟩ : ∃ d, k - i = d + 1 := ⟨k - i - 1, by omega⟩
    have hd2 : k - (i + 1) = d := by omega
    have easc : asc (Mf ms c m) (ma ms 71) (Pf ms c m k) (k - i) i v = asc (Mf ms c m) (ma ms 71) (Pf ms c m k) (k - (i + 1)) (i + 1) (chs (Mf ms c m) (ma ms 71) (Pf ms c m k) i v) := by rw [hd, hd2]; rfl
    have eascw : ascw (Mf ms c m) (ma ms 71) (Pf ms c m k) (k - i) i v w = ascw (Mf ms c m) (ma ms 71) (Pf ms c m k) (k - (i + 1)) (i + 1) (chs (Mf ms c m) (ma ms 71) (Pf ms c m k) i v) (if pkd (Mf ms c m) (ma ms 71) (Pf ms c m k) i v = true then w + (if (Pf ms c m k i).isNone = true then ma ms 71 i else 0) else w) := by rw [hd, hd2]; rfl
    rw [easc, eascw]
    have nxt : ∀ (v' : Nat) (w' : Int32), v' = chs (Mf ms c m) (ma ms 71) (Pf ms c m k) i v → w' = (if pkd (Mf ms c m) (ma ms 71) (Pf ms c m k) i v = true then w + (if (Pf ms c m k i).isNone = true then ma ms 71 i else 0) else w) → f_X9_findBest_263 f (miU ms 15 w') (nI c) (nI (24 * m)) (nI v') (nI i + 1) = some (nI (asc (Mf ms c m) (ma ms 71) (Pf ms c m k) (k - (i + 1)) (i + 1) (chs (Mf ms c m) (ma ms 71) (Pf ms c m k) i v)), miU ms 15 (ascw (Mf ms c m) (ma ms 71) (Pf ms c m k) (k - (i + 1)) (i + 1) (chs (Mf ms c m) (ma ms 71) (Pf ms c m k) i v) (if pkd (Mf ms c m) (ma ms 71) (Pf ms c m k) i v = true then w + (if (Pf ms c m k i).isNone = true then ma ms 71 i else 0) else w))) := by
      rintro v' w' rfl rfl
      rw [nI_1]
      exact ih (i + 1) _ _ (by omega) (by omega) (chs_lt hv)
    have skip : pkd (Mf ms c m) (ma ms 71) (Pf ms c m k) i v = false → f_X9_findBest_370 (f_X9_findBest_263 f) (miU ms 15 w) (nI c) (nI (24 * m)) (nI v) (nI i) = some (nI (asc (Mf ms c m) (ma ms 71) (Pf ms c m k) (k - (i + 1)) (i + 1) (chs (Mf ms c m) (ma ms 71) (Pf ms c m k) i v)), miU ms 15 (ascw (Mf ms c m) (ma ms 71) (Pf ms c m k) (k - (i + 1)) (i + 1) (chs (Mf ms c m) (ma ms 71) (Pf ms c m k) i v) (if pkd (Mf ms c m) (ma ms 71) (Pf ms c m k) i v = true then w + (if (Pf ms c m k i).isNone = true then ma ms 71 i else 0) else w))) := by
      intro hp
      exact nxt v w (by unfold chs; rw [hp]; rfl) (by rw [hp]; rfl)
    have e15 : mi (miU ms 15 w) 15 = w := rfl
    have e15' : ∀ y, miU (miU ms 15 w) 15 y = miU ms 15 y := fun y => by
      show (va_up (va_up ms.1 15 w) 15 y, ms.2) = _
      rw [va_up_up]
      rfl
    have mOf : ¬ ma ms 71 i ≤ 0 → Mf ms c m i = true := fun x => by
      cases z : Mf ms c m i with
      | true => rfl
      | false => exact absurd (h71 i hik z) x
    have free : Pf ms c m k i = none → f_X9_findBest_306 (f_X9_findBest_263 f) (miU ms 15 w) (nI c) (nI (24 * m)) (nI v) (nI i) (ma ms 40 (24 * m + i)) 0 = some (nI (asc (Mf ms c m) (ma ms 71) (Pf ms c m k) (k - (i + 1)) (i + 1) (chs (Mf ms c m) (ma ms 71) (Pf ms c m k) i v)), miU ms 15 (ascw (Mf ms c m) (ma ms 71) (Pf ms c m k) (k - (i + 1)) (i + 1) (chs (Mf ms c m) (ma ms 71) (Pf ms c m k) i v) (if pkd (Mf ms c m) (ma ms 71) (Pf ms c m k) i v = true then w + (if (Pf ms c m k i).isNone = true then ma ms 71 i else 0) else w))) := by
      intro eP
      unfold f_X9_findBest_306
      rw [e71, ldI_n (by omega) (by omega), some_bind]
      by_cases x : ma ms 71 i ≤ 0
      · rw [if_pos x]
        exact skip (by unfold pkd; rw [decide_eq_true x]; simp)
      · have hp : pkd (Mf ms c m) (ma ms 71) (Pf ms c m k) i v = true := by unfold pkd; rw [eP, mOf x, decide_eq_false x]; rfl
        rw [if_neg x, if_pos rfl]
        unfold f_X9_findBest_336 f_X9_findBest_366 f_X9_findBest_370
        rw [if_pos rfl, e71, ldI_n (by omega) (by omega), some_bind, e15, e15', nI_bit (by omega), nI_or]
        exact nxt _ _ (by unfold chs; rw [hp]; rfl) (by rw [hp, eP]; rfl)
    unfold f_X9_findBest_305
    rcases H_cases h hik with ⟨h40, eH⟩ | ⟨j, hj, h40, eH⟩
    · rw [if_pos h40]
      exact free (by unfold Pf; rw [eH])
    · rw [if_neg (by rw [h40]; exact nI_ne_neg (by omega)), isOn9 (ms := miU ms 15 w) hc, some_bind, show ma (miU ms 15 w) 50 = ma ms 50 from rfl]
      by_cases o : onb (ma ms 50 c) (nI j) = 0
      · rw [if_pos (by rw [h40]; exact o)]
        exact free (by unfold Pf; rw [eH]; exact if_neg (by rw [Onf_0.mpr o]; simp))
      · have o' : Onf ms c j = true := by
          cases z : Onf ms c j with
          | true => rfl
          | false => exact absurd (Onf_0.mp z) o
        have eP : Pf ms c m k i = some j := by unfold Pf; rw [eH]; exact if_pos o'
        rw [if_neg (by rw [h40]; exact o)]
        unfold f_X9_findBest_306
        rw [e71, ldI_n (by omega) (by omega), some_bind]
        by_cases x : ma ms 71 i ≤ 0
        · rw [if_pos x]
          exact skip (by unfold pkd; rw [decide_eq_true x]; simp)
        rw [if_neg x, if_neg one_ne, h40]
        have hbt := bit_n (v := v) (q := j) hv31 (by omega)
        cases hb : v.testBit j with
        | false =>
          rw [hb] at hbt
          rw [hbt.trans (if_neg (by simp)), if_pos rfl]
          exact skip (by unfold pkd; rw [eP]; simp [hb, rch])
        | true =>
          have hp : pkd (Mf ms c m) (ma ms 71) (Pf ms c m k) i v = true := by unfold pkd; rw [eP, mOf x, decide_eq_false x]; simp [hb, rch]
          rw [hb] at hbt
          rw [hbt.trans (if_pos rfl), if_neg one_ne]
          unfold f_X9_findBest_336 f_X9_findBest_366 f_X9_findBest_370
          rw [if_neg one_ne, e15, e15', nI_bit (by omega), nI_or]
          exact nxt _ _ (by unfold chs; rw [hp]; rfl) (by rw [hp, eP]; rfl)

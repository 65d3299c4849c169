/-! ===== best, worth: both sides run it ===== -/
def Onf (ms : MS) (c q : Nat) : Bool := decide (onb (ma ms 50 c) (nI q) = 1)
def Mf (ms : MS) (c m q : Nat) : Bool := Onf ms c q && !decide (ma ms 38 (24 * m + q) = 5) && !(decide (ma ms 38 (24 * m + q) = 3 ∨ ma ms 38 (24 * m + q) = 4) && decide (ma ms 52 c = 0))
def ownf (ms : MS) (m : Nat) (w : Int32) (q : Nat) : Int32 := (if ma ms 38 (24 * m + q) = 2 then ma ms 44 (24 * m + q) / 2 else if ma ms 38 (24 * m + q) = 1 then ma ms 44 (24 * m + q) / 2 else ma ms 44 (24 * m + q)) - ma ms 41 (24 * m + q) * w
def Hf (ms : MS) (m k q : Nat) : Option Nat := if q < k then (if ma ms 40 (24 * m + q) = -1 then none else some (ma ms 40 (24 * m + q)).toNatClampNeg) else none
def Pf (ms : MS) (c m k q : Nat) : Option Nat := match Hf ms m k q with
  | none => none
  | some j => if Onf ms c j = true then some j else none
theorem Onf_0 {ms : MS} {c q : Nat} : Onf ms c q = false ↔ onb (ma ms 50 c) (nI q) = 0 := by
  unfold Onf
  rcases onb_zb (ma ms 50 c) (nI q) with h | h
  · rw [h]; decide
  · rw [h]; decide
/-- a car looked at: its place, its model, its parts -/
def CL (cs : CS) (ms : MS) (c a m k k' : Nat) : Prop := RMd cs ms ∧ c < 40 ∧ CarAt cs ms c a ∧ m < 8 ∧ ma ms 46 c = nI m ∧ ma ms 49 c = nI k ∧ k ≤ k' ∧ k' ≤ 24 ∧ ma ms 37 m = nI k'
theorem H_cases {cs : CS} {ms : MS} {c a m k k' q : Nat} (h : CL cs ms c a m k k') (hq : q < k) : (ma ms 40 (24 * m + q) = -1 ∧ Hf ms m k q = none) ∨ ∃ j, j < q ∧ ma ms 40 (24 * m + q) = nI j ∧ Hf ms m k q = some j := by
  obtain ⟨hMd, hc, hA, hm, g1, g2, hkk, hk', g3⟩ := h
  obtain ⟨-, -, -, -, -, -, -, -, -, -, hr, -⟩ := fact_at hMd hm hk' g3 (p := q) (by omega)
  unfold Hf
  rw [if_pos hq]
  rcases hr with hr | ⟨j, hj, hr⟩
  · exact Or.inl ⟨hr, by rw [if_pos hr]⟩
  · refine Or.inr ⟨j, hj, hr, ?_⟩
    rw [hr, if_neg (nI_ne_neg (by omega)), nI_clamp (by omega)]
theorem H_lt {cs : CS} {ms : MS} {c a m k k' : Nat} (h : CL cs ms c a m k k') : ∀ q j, Hf ms m k q = some j → j < q := by
  intro q j hj
  by_cases hq : q < k
  · rcases H_cases h hq with ⟨-, e⟩ | ⟨j', hj', -, e⟩
    · rw [e] at hj; cases hj
    · rw [e] at hj; cases hj; exact hj'
  · unfold Hf at hj
    rw [if_neg hq] at hj; cases hj
theorem P_lt {cs : CS} {ms : MS} {c a m k k' : Nat} (h : CL cs ms c a m k k') : ∀ q j, Pf ms c m k q = some j → j < q := by
  intro q j hj
  unfold Pf at hj
  cases hh : Hf ms m k q with
  | none => rw [hh] at hj; cases hj
  | some j' =>
    rw [hh] at hj
    by_cases o : Onf ms c j' = true
    · have hj2 : (if Onf ms c j' = true then some j' else none) = some j := hj
      rw [if_pos o] at hj2
      rw [← Option.some.inj hj2]
      exact H_lt h q j' hh
    · have hj2 : (if Onf ms c j' = true then some j' else none) = some j := hj
      rw [if_neg o] at hj2; cases hj2
theorem may8 {cs : CS} {ms : MS} {c a m k k' q : Nat} (h : CL cs ms c a m k k') (hq : q < k) : f_X8_mayBeChosen cs (some a) (nI q) = some (if Mf ms c m q = true then 1 else 0) := by
  obtain ⟨hMd, hc, hA, hm, g1, g2, hkk, hk', g3⟩ := h
  obtain ⟨f0, -⟩ := fact_at hMd hm hk' g3 (p := q) (by omega)
  obtain ⟨x1, x2, x3, y0, y1, y2, y3, y4, y5, y6, -⟩ := id hA
  unfold f_X8_mayBeChosen f_X8_needsDraining Mf
  simp only [ob_some, gd_t (show a ∈ cl cs ∧ ck cs a = 0 from ⟨x2, x3⟩), y0, g1, f0, some_bind, isOn8 hA g2 (show k ≤ 24 by omega) hq, y6]
  by_cases o : onb (ma ms 50 c) (nI q) = 0
  · have o' := Onf_0.mpr o
    rw [if_pos o, o', Bool.false_and, Bool.false_and, if_neg (by simp)]
  have o' : Onf ms c q = true := by
    cases z : Onf ms c q with
    | true => rfl
    | false => exact absurd (Onf_0.mp z) o
  rw [if_neg o, o', Bool.true_and]
  by_cases k5 : ma ms 38 (24 * m + q) = 5
  · rw [if_pos k5, k5]; simp
  rw [if_neg k5]
  by_cases d : ma ms 52 c = 0
  · rw [if_pos d, d]
    by_cases k3 : ma ms 38 (24 * m + q) = 3
    · rw [if_pos k3, some_bind, if_neg one_ne, k3]; simp
    rw [if_neg k3]
    by_cases k4 : ma ms 38 (24 * m + q) = 4
    · rw [if_pos k4, some_bind, if_neg one_ne, k4]; simp
    · rw [if_neg k4, some_bind, if_pos rfl]; simp [k3, k4, k5]
  · rw [if_neg d]; simp [k5, d]
theorem gain8 {cs : CS} {ms : MS} {c a m k k' q : Nat} (h : CL cs ms c a m k k') (hq : q < k) (w : Int32) : f_X8_gainOf cs (some a) (nI q) w = some (ownf ms m w q) := by
  obtain ⟨hMd, hc, hA, hm, g1, g2, hkk, hk', g3⟩ := h
  obtain ⟨f0, -, -, f3, -, -, f6, -⟩ := fact_at hMd hm hk' g3 (p := q) (by omega)
  obtain ⟨x1, x2, x3, y0, -⟩ := id hA
  unfold f_X8_gainOf ownf
  simp only [ob_some, gd_t (show a ∈ cl cs ∧ ck cs a = 0 from ⟨x2, x3⟩), y0, g1, f0, f3, f6, some_bind]
  by_cases k2 : ma ms 38 (24 * m + q) = 2
  · rw [if_pos k2, if_pos k2]
  rw [if_neg k2, if_neg k2]
  by_cases k1 : ma ms 38 (24 * m + q) = 1
  · rw [if_pos k1, if_pos k1]
  · rw [if_neg k1, if_neg k1]
theorem fill_loop {cs : CS} : ∀ (f i : Nat) (G : Nat → Int32), i ≤ 24 → 25 ≤ i + f → ∃ G', f_J7_fill_53178_5 f (caS cs 11 G) 0 (nI i) 24 = some (caS cs 11 G') ∧ ∀ j, j < 24 → (i ≤ j ∨ G j = 0) → G' j = 0 := by
  intro f
  induction f with
  | zero => intro i G h1 h2; omega
  | succ f ih =>
    intro i G h1 h2
    rw [f_J7_fill_53178_5]
    by_cases q : 24 ≤ i
    · rw [if_pos (show (24 : Int32) ≤ nI i from nI_le (a := 24) q (by omega))]
      exact ⟨G, rfl, fun j hj h => h.resolve_left (by omega)⟩
    · rw [if_neg (show ¬ (24 : Int32) ≤ nI i from nI_ge (b := 24) (by omega) (by omega)), ixr_n (by omega) (by omega), nI_clamp (by omega), caS_caU, nI_1]
      obtain ⟨G', e, hz⟩ := ih (i + 1) (upd G i 0) (by omega) (by omega)
      refine ⟨G', e, fun j hj h => hz j hj ?_⟩
      by_cases z : j = i
      · right; rw [z, upd_eq]
      · rcases h with h | h
        · left; omega
        · right; rw [upd_ne z]; exact h
theorem sum8_loop {cs : CS} {ms : MS} {c a m k k' : Nat} (h : CL cs ms c a m k k') (w : Int32) : ∀ (f i : Nat) (G : Nat → Int32), i ≤ k → i + 1 ≤ f → f_X8_sumGains_23 f (caS cs 11 G) a w (nI i - 1) = some (caS cs 11 (run (st8 (Mf ms c m) (ownf ms m w) (Hf ms m k)) i G)) := by
  intro f
  induction f with
  | zero => intro i G h1 h2; omega
  | succ f ih =>
    intro i G h1 h2
    rw [f_X8_sumGains_23]
    by_cases q : i = 0
    · subst q
      rw [if_pos (show nI 0 - 1 < 0 by decide)]
      rfl
    obtain ⟨p, rfl⟩ : ∃ p, i = p + 1 := ⟨i - 1, by omega⟩
    have hC : ∀ W, CL (caS cs 11 W) ms c a m k k' := fun W => h
    have hp24 : p < 24 := by have := h.2.2.2.2.2.2.1; have := h.2.2.2.2.2.2.2.1; omega
    have hp31 : p < 2 ^ 31 := by omega
    obtain ⟨hMd, hc, hA, hm, g1, g2, hkk, hk', g3⟩ := id h
    obtain ⟨x1, x2, x3, y0, -⟩ := id hA
    have hcl : ∀ W, a ∈ cl (caS cs 11 W) ∧ ck (caS cs 11 W) a = 0 := fun W => ⟨x2, x3⟩
    have y0' : ∀ W, cp (caS cs 11 W) a 0 = nI m := fun W => y0.trans g1
    have f2 : ∀ W, f_X6_factOf (caS cs 11 W) (nI m) (nI p) 2 = some (ma ms 40 (24 * m + p)) := fun W => (fact_at (cs := caS cs 11 W) hMd hm hk' g3 (p := p) (by omega)).2.2.1
    have e11 : ∀ W, ca (caS cs 11 W) 11 = W := fun W => rfl
    rw [show nI (p + 1) - 1 = nI p by rw [nI_sub1 (by omega)]; rfl, if_neg (nI_pos hp31), may8 (hC G) (by omega), some_bind, m1_sub]
    have er : run (st8 (Mf ms c m) (ownf ms m w) (Hf ms m k)) (p + 1) G = run (st8 (Mf ms c m) (ownf ms m w) (Hf ms m k)) p (st8 (Mf ms c m) (ownf ms m w) (Hf ms m k) p G) := rfl
    rw [er]
    by_cases mm : Mf ms c m p = true
    · rw [if_pos mm, if_neg one_ne, e11, ldI_n hp24 hp31, some_bind, gain8 (hC G) (by omega), some_bind, ixr_n hp24 hp31, nI_clamp hp31, caS_caU, gd_t (hcl _), y0', f2, some_bind, e11, ldI_n hp24 hp31, some_bind, upd_eq]
      unfold st8
      rw [if_pos mm]
      by_cases x : G p + ownf ms m w p ≤ 0
      · rw [if_pos x, if_pos x]
        exact ih p _ (by omega) (by omega)
      rw [if_neg x, if_neg x]
      rcases H_cases h (q := p) (by omega) with ⟨e40, eH⟩ | ⟨j, hj, e40, eH⟩
      · rw [e40, eH, if_pos (by decide)]
        exact ih p _ (by omega) (by omega)
      · have hj31 : j < 2 ^ 31 := by omega
        rw [e40, eH, if_neg (nI_pos hj31), if_neg (show ¬ (24 : Int32) ≤ nI j from nI_ge (b := 24) (by omega) (by omega)), ldI_n (by omega) hj31, some_bind, some_bind, ixr_n (by omega) hj31, nI_clamp hj31, caS_caU]
        exact ih p _ (by omega) (by omega)
    · rw [if_neg mm, if_pos rfl]
      unfold st8
      rw [if_neg mm]
      exact ih p _ (by omega) (by omega)

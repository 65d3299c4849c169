/-! ===== car ===== -/
theorem fresh_nat : ∀ l : List Nat, ∃ b, ∀ x, x ∈ l → x < b
  | [] => ⟨0, fun x h => by cases h⟩
  | y :: l => by
    obtain ⟨b, hb⟩ := fresh_nat l
    refine ⟨b + y + 1, fun x h => ?_⟩
    rcases List.mem_cons.mp h with h | h
    · omega
    · have := hb x h; omega
theorem nI_whole {n : Nat} (h : n ≤ 24) : ((1 : Int32) <<< (nI n &&& 31)) - 1 = nI (2 ^ n - 1) := by
  rw [nI_bit (by omega), nI_sub1 (Nat.two_pow_pos n)]
theorem lacks_iff {n : Nat} (h : n ≤ 24) (x : Int32) : x &&& (nI (2 ^ n - 1) ^^^ -1) = 0 ↔ ¬ x < 0 ∧ x >>> (nI n &&& 31) = 0 := by
  have e : (x &&& (nI (2 ^ n - 1) ^^^ -1)).toBitVec = x.toBitVec &&& (BitVec.ofNat 32 (2 ^ n - 1) ^^^ BitVec.allOnes 32) := rfl
  have eb : ∀ i, i < 32 → (x &&& (nI (2 ^ n - 1) ^^^ -1)).toBitVec.getLsbD i = (x.toBitVec.getLsbD i && !decide (i < n)) := by
    intro i hi
    rw [e, BitVec.getLsbD_and, BitVec.getLsbD_xor, BitVec.getLsbD_ofNat, BitVec.getLsbD_allOnes, Nat.testBit_two_pow_sub_one]
    simp [hi]
  by_cases hn : x < 0
  · refine ⟨fun z => ?_, fun z => absurd hn z.1⟩
    exfalso
    have b := eb 31 (by omega)
    rw [z] at b
    have m : x.toBitVec.getLsbD 31 = true := by
      have := BitVec.msb_eq_toInt (x := x.toBitVec)
      rw [BitVec.msb_eq_getLsbD_last] at this
      have h2 : x.toBitVec.toInt < 0 := Int32.lt_iff_toInt_lt.mp hn
      rw [decide_eq_true h2] at this
      exact this
    rw [m, decide_eq_false (by omega)] at b
    exact absurd b (by decide)
  · obtain ⟨l, hl, rfl⟩ := nI_of hn
    have hs : ∀ q, q < 31 → ((nI q &&& 31).toBitVec.smod 32#32).toNat = q := by decide
    rw [nI_shr hl _ n (hs n (by omega))]
    have ed : nI (l / 2 ^ n) = 0 ↔ l < 2 ^ n := by
      constructor
      · intro z
        have z2 := nI_inj (b := 0) (Nat.lt_of_le_of_lt (Nat.div_le_self _ _) hl) (by omega) z
        rcases Nat.lt_or_ge l (2 ^ n) with w | w
        · exact w
        · have := (Nat.one_le_div_iff (Nat.two_pow_pos n)).mpr w
          omega
      · intro z
        rw [Nat.div_eq_of_lt z]; rfl
    rw [ed]
    refine ⟨fun z => ⟨hn, ?_⟩, fun z => ?_⟩
    · apply Nat.lt_pow_two_of_testBit
      intro i hi
      by_cases h32 : i < 32
      · have b := eb i h32
        rw [z, decide_eq_false (by omega)] at b
        have b2 : (nI l).toBitVec.getLsbD i = l.testBit i := by
          show (BitVec.ofNat 32 l).getLsbD i = _
          rw [BitVec.getLsbD_ofNat]; simp [h32]
        rw [b2] at b
        simp at b
        exact b
      · exact Nat.testBit_lt_two_pow (Nat.lt_of_lt_of_le hl (Nat.pow_le_pow_right (by omega) (by omega)))
    · apply Int32.toBitVec_inj.mp
      apply BitVec.eq_of_getLsbD_eq
      intro i hi
      rw [eb i hi]
      have b2 : (nI l).toBitVec.getLsbD i = l.testBit i := by
        show (BitVec.ofNat 32 l).getLsbD i = _
        rw [BitVec.getLsbD_ofNat]; simp [hi]
      rw [b2]
      by_cases hin : i < n
      · rw [decide_eq_true hin]; simp
      · rw [Nat.testBit_lt_two_pow (Nat.lt_of_lt_of_le z.2 (Nat.pow_le_pow_right (by omega) (by omega)))]
        simp
theorem RWf_come {W : Nat → Int32} {a b c d e : Nat → Int64} {s : Nat} {g : Int32} (h : RWf W a b c d e) : RWf (upd (upd W (6 * s + 0) (W (6 * s + 0) + 1 * g)) (6 * s + 1) (upd W (6 * s + 0) (W (6 * s + 0) + 1 * g) (6 * s + 1) + 1 * g)) (vp_updL a s (a s + g.toInt64)) b c d e := by
  intro z hz
  obtain ⟨a0, a1, a2, a3, a4, a5⟩ := h z hz
  by_cases q : z = s
  · subst q
    simp only [updL_eq, Int64.toInt32_sub, Int64.toInt32_add, Int32.toInt32_toInt64] at a1 ⊢
    refine ⟨?_, ?_, ?_, ?_, ?_, ?_⟩ <;> simp [upd_at] <;> grind
  · simp only [updL_ne q]
    rw [upd_ne (by omega), upd_ne (by omega), upd_ne (by omega), upd_ne (by omega), upd_ne (by omega), upd_ne (by omega), upd_ne (by omega), upd_ne (by omega), upd_ne (by omega), upd_ne (by omega), upd_ne (by omega), upd_ne (by omega)]
    exact ⟨a0, a1, a2, a3, a4, a5⟩
theorem come_loop {cs : CS} {ms : MS} {n q m k : Nat} {b c d e : Nat → Int64} (hMd : RMd cs ms) (hn : n < 40) (hA : CarAt cs ms n q) (hm : m < 8) (g1 : ma ms 46 n = nI m) (g2 : ma ms 49 n = nI k) (hk : k ≤ 24) (g3 : ma ms 37 m = nI k) : ∀ (f i : Nat) (W : Nat → Int32) (P : Nat → Int64), i ≤ k → k + 1 ≤ i + f → RWf W P b c d e → ∃ W' P', f_X8_weighComing_2 f (caS cs 10 W) q (nI i) = some (caS cs 10 W') ∧ f_X9_car_231 f (mbS ms 55 P) (nI m) (nI n) (nI i) = some (nI n, miU (miU (mbS ms 55 P') 9 (mi ms 9 + 1)) 11 0) ∧ RWf W' P' b c d e := by
  obtain ⟨x1, x2, x3, y0, y1, y2, y3, -⟩ := id hA
  intro f
  induction f with
  | zero => intro i W P h1 h2; omega
  | succ f ih =>
    intro i W P h1 h2 hW
    have hcl : ∀ W, q ∈ cl (caS cs 10 W) ∧ ck (caS cs 10 W) q = 0 := fun W => ⟨x2, x3⟩
    have y3' : cp (caS cs 10 W) q 3 = nI k := y3.trans g2
    have y0' : ∀ W, cp (caS cs 10 W) q 0 = nI m := fun W => y0.trans g1
    have g2' : ma (mbS ms 55 P) 49 n = nI k := g2
    have hA' : CarAt (caS cs 10 W) (mbS ms 55 P) n q := hA
    have hMd' : RMd (caS cs 10 W) (mbS ms 55 P) := hMd
    rw [f_X8_weighComing_2, f_X9_car_231, gd_t (hcl W), y3', ldI_n hn (by omega), some_bind, g2']
    by_cases qi : i = k
    · subst qi
      rw [if_pos (nI_le (Nat.le_refl _) (by omega)), if_pos (nI_le (Nat.le_refl _) (by omega))]
      exact ⟨W, P, rfl, rfl, hW⟩
    have hik : i < k := by omega
    unfold f_X9_car_287
    rw [if_neg (nI_ge hik (by omega)), if_neg (nI_ge hik (by omega)), isOn8 hA' g2' hk hik, isOn9 hn, some_bind, some_bind, nI_1]
    by_cases qo : onb (ma (mbS ms 55 P) 50 n) (nI i) = 0
    · rw [if_pos qo, if_pos qo]
      exact ih (i + 1) W P (by omega) (by omega) hW
    obtain ⟨s, hs, h43, w1⟩ := weigh_n hMd' hm hk g3 (p := i) (g := 0) (by omega) (by omega) 1
    obtain ⟨s', hs', h43', w2⟩ := weigh_n (cs := caS cs 10 (upd W (6 * s + 0) (W (6 * s + 0) + 1 * ma ms 42 (24 * m + i)))) (ms := ms) hMd hm hk g3 (p := i) (g := 1) (by omega) (by omega) 1
    obtain rfl : s = s' := nI_inj (by omega) (by omega) (h43.symm.trans h43')
    have w1' : f_X8_weigh (caS cs 10 W) (nI m) (nI i) 0 1 = some (caS cs 10 (upd W (6 * s + 0) (W (6 * s + 0) + 1 * ma ms 42 (24 * m + i)))) := w1.trans (congrArg some caS_caU)
    have w2' : f_X8_weigh (caS cs 10 (upd W (6 * s + 0) (W (6 * s + 0) + 1 * ma ms 42 (24 * m + i)))) (nI m) (nI i) 1 1 = some (caS cs 10 (upd (upd W (6 * s + 0) (W (6 * s + 0) + 1 * ma ms 42 (24 * m + i))) (6 * s + 1) (upd W (6 * s + 0) (W (6 * s + 0) + 1 * ma ms 42 (24 * m + i)) (6 * s + 1) + 1 * ma ms 42 (24 * m + i)))) := w2.trans (congrArg some caS_caU)
    have hz : 24 * m + i < 192 := by omega
    have e42 : ma (mbS ms 55 P) 42 = ma ms 42 := rfl
    have e43 : ma (mbS ms 55 P) 43 (24 * m + i) = nI s := h43
    have e55 : mb (mbS ms 55 P) 55 = P := rfl
    rw [if_neg qo, if_neg qo, y0', w1', some_bind, gd_t (hcl _), y0', w2', some_bind, l24, nI_mul, nI_add]
    simp only [ldI_n hz (show 24 * m + i < 2 ^ 31 by omega), some_bind, e42, e43, e55, ldL_n hs (show s < 2 ^ 31 by omega), ixr_n hs (show s < 2 ^ 31 by omega), nI_clamp (show s < 2 ^ 31 by omega), mbS_mbU]
    exact ih (i + 1) _ _ (by omega) (by omega) (RWf_come hW)
/-! the new car -/
def crC (cs : CS) (q n m k : Nat) (v2 v3 on : Int32) : CS := ciU (cgU (cpU (cpU (cpU (cpU (cpU (cpU (cpU (cpU (cpU (cnU cs q 0) q 6 0) q 7 0) q 8 0) q 0 (nI m)) q 1 v2) q 2 v3) q 3 (nI k)) q 5 on) q 4 (ci cs 3)) 8 n q) 0 (nI (n + 1))
def crM (ms : MS) (n m k : Nat) (v2 v3 on : Int32) : MS := maU (maU (maU (maU (maU (maU (maU (maU (maU (miU ms 0 0) 46 n (nI m)) 47 n v2) 48 n v3) 49 n (nI k)) 50 n on) 51 n (mi ms 10)) 52 n 0) 53 n 0) 54 n 0
theorem crC_ne {cs : CS} {q n m k b kk : Nat} {v2 v3 on : Int32} (h : b ≠ q) : cp (crC cs q n m k v2 v3 on) b kk = cp cs b kk :=
  (cp_ne h).trans ((cp_ne h).trans ((cp_ne h).trans ((cp_ne h).trans ((cp_ne h).trans ((cp_ne h).trans ((cp_ne h).trans ((cp_ne h).trans ((cp_ne h).trans (congrFun (cp_N_ne h) kk)))))))))
theorem cr_at {cs : CS} {ms : MS} {q n m k : Nat} {v2 v3 on : Int32} (hd : ci cs 3 = mi ms 10) : CarAt (crC cs q n m k v2 v3 on) (crM ms n m k v2 v3 on) n q := by
  have N : ∀ {cs : CS} {a f k : Nat} {x : Int32}, k ≠ f → cp (cpU cs a f x) a k = cp cs a k := cp_nf
  refine ⟨if_pos rfl, List.mem_append_right _ (List.mem_singleton.mpr rfl), ck_N, ?_, ?_, ?_, ?_, ?_, ?_, ?_, ?_, ?_⟩
  · exact ((N (by decide)).trans ((N (by decide)).trans ((N (by decide)).trans ((N (by decide)).trans ((N (by decide)).trans cp_eq))))).trans (upd_eq (f := ma ms 46)).symm
  · exact ((N (by decide)).trans ((N (by decide)).trans ((N (by decide)).trans ((N (by decide)).trans cp_eq)))).trans (upd_eq (f := ma ms 47)).symm
  · exact ((N (by decide)).trans ((N (by decide)).trans ((N (by decide)).trans cp_eq))).trans (upd_eq (f := ma ms 48)).symm
  · exact ((N (by decide)).trans ((N (by decide)).trans cp_eq)).trans (upd_eq (f := ma ms 49)).symm
  · exact cp_eq.trans (hd.trans (upd_eq (f := ma ms 51)).symm)
  · exact ((N (by decide)).trans cp_eq).trans (upd_eq (f := ma ms 50)).symm
  · exact ((N (by decide)).trans ((N (by decide)).trans ((N (by decide)).trans ((N (by decide)).trans ((N (by decide)).trans ((N (by decide)).trans ((N (by decide)).trans ((N (by decide)).trans cp_eq)))))))).trans (upd_eq (f := ma ms 52)).symm
  · exact ((N (by decide)).trans ((N (by decide)).trans ((N (by decide)).trans ((N (by decide)).trans ((N (by decide)).trans ((N (by decide)).trans ((N (by decide)).trans cp_eq))))))).trans (upd_eq (f := ma ms 53)).symm
  · exact ((N (by decide)).trans ((N (by decide)).trans ((N (by decide)).trans ((N (by decide)).trans ((N (by decide)).trans ((N (by decide)).trans cp_eq)))))).trans (upd_eq (f := ma ms 54)).symm
theorem cr_RCr {cs : CS} {ms : MS} (h5 : RCr cs ms) {q n m k o : Nat} {v2 v3 : Int32} (hq : q ∉ cl cs) (hd : ci cs 3 = mi ms 10) (hn : n < 40) (e9 : mi ms 9 = nI n) (hm : m < 8) (hk0 : 0 < k) (hk : k ≤ 24) (g3 : ma ms 37 m = nI k) (ho : o < 2 ^ k) : RCr (crC cs q n m k v2 v3 (nI o)) (miU (crM ms n m k v2 v3 (nI o)) 9 (nI (n + 1))) := by
  obtain ⟨nn, hnn, i1, i2, i3, i4⟩ := h5
  obtain rfl : n = nn := nI_inj (by omega) (by omega) (e9.symm.trans i2)
  have hAt := cr_at (cs := cs) (ms := ms) (q := q) (n := n) (m := m) (k := k) (v2 := v2) (v3 := v3) (on := nI o) hd
  have cgn : cg (crC cs q n m k v2 v3 (nI o)) 8 n = some q := if_pos rfl
  have cgne : ∀ j, j ≠ n → cg (crC cs q n m k v2 v3 (nI o)) 8 j = cg cs 8 j := fun j hj => if_neg hj
  refine ⟨n + 1, by omega, rfl, rfl, fun c hc => ?_, fun c c' b hc hc' z1 z2 => ?_⟩
  · by_cases z : c = n
    · subst z
      refine ⟨⟨Or.inl (upd_eq (f := ma ms 52)), Or.inl (upd_eq (f := ma ms 53)), Or.inl (upd_eq (f := ma ms 54)), m, k, k, o, hm, upd_eq (f := ma ms 46), hk0, Nat.le_refl _, hk, upd_eq (f := ma ms 49), g3, ho, upd_eq (f := ma ms 50)⟩, q, hAt⟩
    · obtain ⟨⟨z1, z2, z3, m', k1, k2, o', r1, r2, r3, r4, r5, r6, r7, r8, r9⟩, a, u1, u2, u3, w0, w1, w2, w3, w4, w5, w6, w7, w8⟩ := i3 c (by omega)
      have haq : a ≠ q := fun y => hq (y ▸ u2)
      have U : ∀ (f : Nat → Int32) (v : Int32), upd f n v c = f c := fun f v => upd_ne z
      refine ⟨⟨?_, ?_, ?_, m', k1, k2, o', r1, (U _ _).trans r2, r3, r4, r5, (U _ _).trans r6, r7, r8, (U _ _).trans r9⟩, a, (cgne c z).trans u1, List.mem_append_left _ u2, (ck_N_ne haq).trans u3, (crC_ne haq).trans (w0.trans (U _ _).symm), (crC_ne haq).trans (w1.trans (U _ _).symm), (crC_ne haq).trans (w2.trans (U _ _).symm), (crC_ne haq).trans (w3.trans (U _ _).symm), (crC_ne haq).trans (w4.trans (U _ _).symm), (crC_ne haq).trans (w5.trans (U _ _).symm), (crC_ne haq).trans (w6.trans (U _ _).symm), (crC_ne haq).trans (w7.trans (U _ _).symm), (crC_ne haq).trans (w8.trans (U _ _).symm)⟩
      · show zb (upd (ma ms 52) n 0 c)
        rw [U]; exact z1
      · show zb (upd (ma ms 53) n 0 c)
        rw [U]; exact z2
      · show upd (ma ms 54) n 0 c = 0 ∨ (upd (ma ms 54) n 0 c = 1 ∧ upd (ma ms 50) n (nI o) c = 0)
        rw [U, U]; exact z3
  · by_cases y1 : c = n
    · by_cases y2 : c' = n
      · omega
      · exfalso
        subst y1
        rw [cgn] at z1
        rw [cgne c' y2] at z2
        obtain ⟨-, b', w1, w2, -⟩ := i3 c' (by omega)
        rw [← Option.some.inj z1] at z2
        rw [z2] at w1
        exact hq ((Option.some.inj w1) ▸ w2)
    · by_cases y2 : c' = n
      · exfalso
        subst y2
        rw [cgn] at z2
        rw [cgne c y1] at z1
        obtain ⟨-, b', w1, w2, -⟩ := i3 c (by omega)
        rw [← Option.some.inj z2] at z1
        rw [z1] at w1
        exact hq ((Option.some.inj w1) ▸ w2)
      · rw [cgne c y1] at z1
        rw [cgne c' y2] at z2
        exact i4 c c' b (by omega) (by omega) z1 z2
theorem cr_RIt {cs : CS} {ms : MS} (h6 : RIt cs ms) {q n m k : Nat} {v2 v3 on : Int32} (hq : q ∉ cl cs) (hn : n < 40) (e9 : mi ms 9 = nI n) : RIt (crC cs q n m k v2 v3 on) (miU (crM ms n m k v2 v3 on) 9 (nI (n + 1))) := by
  obtain ⟨nn, hnn, i1, i2, i3, i4, i5⟩ := h6
  refine ⟨nn, hnn, i1, i2, fun i hi => ?_, i4, i5⟩
  obtain ⟨⟨r1, c, p, r2, r3, r4, r5, r6, r7⟩, b, w1, w2, w3, v0, v2', v3', v4, v5, v1⟩ := i3 i hi
  have hbq : b ≠ q := fun y => hq (y ▸ w2)
  have hcn : c < n := by rw [e9] at r4; exact (nI_lt_iff (by omega) (by omega)).mp r4
  have U : ∀ (f : Nat → Int32) (v : Int32), upd f n v c = f c := fun f v => upd_ne (by omega)
  refine ⟨⟨r1, c, p, r2, r3, nI_lt (by omega) (by omega), r5, r6, ?_⟩, b, w1, List.mem_append_left _ w2, (ck_N_ne hbq).trans w3, (crC_ne hbq).trans v0, (crC_ne hbq).trans v2', (crC_ne hbq).trans v3', (crC_ne hbq).trans v4, fun y => (crC_ne hbq).trans (v5 y), fun c2 y1 y2 => ?_⟩
  · show nI p < upd (ma ms 49) n (nI k) c
    rw [U]; exact r7
  · have : c2 = c := nI_inj (by omega) (by omega) (y1.symm.trans r3)
    subst this
    exact ((crC_ne hbq).trans (v1 c2 r3 r2)).trans (U _ _).symm

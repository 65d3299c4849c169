/-! ===== a fit asked: the class's bits, the reference's row ===== -/
theorem nI_shr {a : Nat} (h : a < 2 ^ 31) (s : Int32) (k : Nat) (hs : (s.toBitVec.smod 32#32).toNat = k) : nI a >>> s = nI (a / 2 ^ k) := by
  apply Int32.toBitVec_inj.mp
  show (BitVec.ofNat 32 a).sshiftRight' (s.toBitVec.smod 32#32) = BitVec.ofNat 32 (a / 2 ^ k)
  unfold BitVec.sshiftRight'
  rw [hs, BitVec.sshiftRight_eq_of_msb_false]
  · apply BitVec.eq_of_toNat_eq
    rw [BitVec.toNat_ushiftRight, BitVec.toNat_ofNat, BitVec.toNat_ofNat, Nat.shiftRight_eq_div_pow, Nat.mod_eq_of_lt (by omega), Nat.mod_eq_of_lt (Nat.lt_of_le_of_lt (Nat.div_le_self _ _) (by omega))]
  · rw [BitVec.msb_eq_false_iff_two_mul_lt, BitVec.toNat_ofNat, Nat.mod_eq_of_lt (by omega)]
    omega
theorem nI_low14 (a : Nat) : nI a &&& 16383 = nI (a % 16384) := by
  apply Int32.toBitVec_inj.mp
  show BitVec.ofNat 32 a &&& BitVec.ofNat 32 16383 = BitVec.ofNat 32 (a % 16384)
  rw [← BitVec.ofNat_and, show (16383 : Nat) = 2 ^ 14 - 1 from rfl, Nat.and_two_pow_sub_one_eq_mod]
theorem step_nums {q : Nat × Nat × Nat} (h1 : q.1 ≤ 5) (h2 : q.2.1 < 16384) (h3 : q.2.2 < 16384) : nI (q.1 * 268435456 + q.2.1 * 16384 + q.2.2) >>> ((28 : Int32) &&& 31) = nI q.1 ∧ (nI (q.1 * 268435456 + q.2.1 * 16384 + q.2.2) >>> ((14 : Int32) &&& 31)) &&& 16383 = nI q.2.1 ∧ nI (q.1 * 268435456 + q.2.1 * 16384 + q.2.2) &&& 16383 = nI q.2.2 := by
  refine ⟨?_, ?_, ?_⟩
  · rw [nI_shr (by omega) _ 28 (by decide)]
    congr 1; omega
  · rw [nI_shr (by omega) _ 14 (by decide), nI_low14]
    congr 1; omega
  · rw [nI_low14]
    congr 1; omega
def bv (b : Bool) : Int32 := if b then 1 else 0
def rel9 (g : Nat → Int32) : List Bool → Prop
  | [] => True
  | b :: bs => g bs.length = bv b ∧ rel9 g bs
def rel8 (x : Int64) (bs : List Bool) : Prop := ∀ j b, bs[j]? = some b → x.toBitVec.getLsbD j = b
theorem rel9_upd {g : Nat → Int32} {k : Nat} {v : Int32} : ∀ bs : List Bool, bs.length ≤ k → rel9 g bs → rel9 (upd g k v) bs
  | [], _, _ => trivial
  | b :: bs, h, hr => ⟨(upd_ne (by simp at h; omega)).trans hr.1, rel9_upd bs (by simp at h; omega) hr.2⟩
theorem rel8_push {x : Int64} {bs : List Bool} (h : rel8 x bs) (hl : bs.length < 44) (b : Bool) : rel8 ((x <<< ((1 : Int32).toInt64 &&& 63)) ||| (bv b).toInt64) (b :: bs) := by
  intro j b' hj
  have e : ((x <<< ((1 : Int32).toInt64 &&& 63)) ||| (bv b).toInt64).toBitVec = (x.toBitVec <<< 1) ||| (bv b).toInt64.toBitVec := rfl
  rw [e, BitVec.getLsbD_or, BitVec.getLsbD_shiftLeft]
  have eb : ∀ i, (bv b).toInt64.toBitVec.getLsbD i = (decide (i = 0) && b) := by
    intro i
    cases b with
    | false => simp [bv]
    | true =>
      have : (bv true).toInt64.toBitVec = 1#64 := rfl
      rw [this, BitVec.getLsbD_one]
      simp
  rw [eb]
  cases j with
  | zero =>
    simp at hj
    simp [hj]
  | succ j =>
    have hj' : bs[j]? = some b' := by simpa using hj
    have hlt : j < bs.length := by
      rcases Nat.lt_or_ge j bs.length with z | z
      · exact z
      · rw [List.getElem?_eq_none z] at hj'; cases hj'
    rw [← h j b' hj']
    simp
    omega
theorem rel8_not {x : Int64} {b : Bool} {bs : List Bool} (h : rel8 x (b :: bs)) (hl : bs.length < 44) : rel8 (x ^^^ 1) ((!b) :: bs) := by
  intro j b' hj
  have e : (x ^^^ 1).toBitVec = x.toBitVec ^^^ 1#64 := rfl
  rw [e, BitVec.getLsbD_xor, BitVec.getLsbD_one]
  cases j with
  | zero =>
    have := h 0 b rfl
    have hj' : (!b) = b' := Option.some.inj hj
    rw [this, ← hj']
    simp
  | succ j =>
    have hj' : (b :: bs)[j + 1]? = some b' := by simpa using hj
    rw [h (j + 1) b' hj']
    simp
theorem shr_bv (x : Int64) : ((x.toUInt64 >>> ((1 : Int32).toInt64.toUInt64 &&& Int64.toUInt64 63)).toInt64).toBitVec = x.toBitVec >>> 1 := rfl
theorem rel8_and {x : Int64} {b c : Bool} {bs : List Bool} (h : rel8 x (b :: c :: bs)) (hl : bs.length < 44) : rel8 ((x.toUInt64 >>> ((1 : Int32).toInt64.toUInt64 &&& Int64.toUInt64 63)).toInt64 &&& (x ||| (-2 : Int64))) ((c && b) :: bs) := by
  intro j b' hj
  have e : ((x.toUInt64 >>> ((1 : Int32).toInt64.toUInt64 &&& Int64.toUInt64 63)).toInt64 &&& (x ||| (-2 : Int64))).toBitVec = (x.toBitVec >>> 1) &&& (x.toBitVec ||| (-2 : Int64).toBitVec) := rfl
  rw [e, BitVec.getLsbD_and, BitVec.getLsbD_ushiftRight, BitVec.getLsbD_or]
  have e2 : ∀ i, i < 64 → (-2 : Int64).toBitVec.getLsbD i = decide (i ≠ 0) := by decide
  cases j with
  | zero =>
    have h0 := h 0 b rfl
    have h1 := h 1 c rfl
    simp at hj
    rw [show 1 + 0 = 1 from rfl, h0, h1, ← hj, e2 0 (by omega)]
    simp
  | succ j =>
    have hj' : bs[j]? = some b' := by simpa using hj
    have hlt : j < bs.length := by
      rcases Nat.lt_or_ge j bs.length with z | z
      · exact z
      · rw [List.getElem?_eq_none z] at hj'; cases hj'
    have h2 := h (j + 2) b' (by simpa using hj')
    rw [show 1 + (j + 1) = j + 2 by omega, h2, e2 _ (by omega)]
    simp
theorem rel8_or {x : Int64} {b c : Bool} {bs : List Bool} (h : rel8 x (b :: c :: bs)) (hl : bs.length < 44) : rel8 ((x.toUInt64 >>> ((1 : Int32).toInt64.toUInt64 &&& Int64.toUInt64 63)).toInt64 ||| (x &&& (1 : Int64))) ((c || b) :: bs) := by
  intro j b' hj
  have e : ((x.toUInt64 >>> ((1 : Int32).toInt64.toUInt64 &&& Int64.toUInt64 63)).toInt64 ||| (x &&& (1 : Int64))).toBitVec = (x.toBitVec >>> 1) ||| (x.toBitVec &&& 1#64) := rfl
  rw [e, BitVec.getLsbD_or, BitVec.getLsbD_ushiftRight, BitVec.getLsbD_and, BitVec.getLsbD_one]
  cases j with
  | zero =>
    have h0 := h 0 b rfl
    have h1 := h 1 c rfl
    simp at hj
    rw [show 1 + 0 = 1 from rfl, h0, h1, ← hj]
    simp
  | succ j =>
    have hj' : bs[j]? = some b' := by simpa using hj
    have h2 := h (j + 2) b' (by simpa using hj')
    rw [show 1 + (j + 1) = j + 2 by omega, h2]
    simp
theorem nar_b1 : vp_nar .boolean 1 = 1 := rfl
theorem nar_b0 : vp_nar .boolean 0 = 0 := rfl
theorem holds_end {x : Int64} {b : Bool} (h : rel8 x [b]) : (if (lg_cmp (x &&& (1 : Int64)) (0 : Int64)) = 0 then (some (0 : Int32)) else (some (1 : Int32))) = some (bv b) := by
  have h0 := h 0 b rfl
  have e : (x &&& 1 : Int64) = (if b then 1 else 0) := by
    apply Int64.toBitVec_inj.mp
    have : (x &&& 1 : Int64).toBitVec = x.toBitVec &&& 1#64 := rfl
    rw [this, BitVec.and_one_eq_setWidth_ofBool_getLsbD, h0]
    cases b <;> rfl
  rw [e]
  cases b <;> rfl
theorem asks_loop {cs : CS} {ms : MS} {f : Nat} (hf : f < 30) {st : List (Nat × Nat × Nat)} (hlen : st.length ≤ 100) (e31 : ma ms 31 f = nI st.length) (hst : ∀ (i : Nat) (q : Nat × Nat × Nat), st[i]? = some q → q.1 ≤ 5 ∧ q.2.1 < 16384 ∧ q.2.2 < 16384 ∧ ca cs 16 (100 * f + i) = nI (q.1 * 268435456 + q.2.1 * 16384 + q.2.2) ∧ ma ms 32 (100 * f + i) = nI q.1 ∧ ma ms 33 (100 * f + i) = nI q.2.1 ∧ ma ms 34 (100 * f + i) = nI q.2.2) (v2 v3 v4 : Int32) : ∀ (n i : Nat) (bs : List Bool) (g : Nat → Int32) (x : Int64), i ≤ st.length → st.length + 1 ≤ i + n → bs.length ≤ 44 → dep bs.length (st.drop i) = some 1 → rel9 g bs → rel8 x bs → ∃ b g', f_X9_asks_9 n (maS ms 36 g) (nI f) v2 v3 v4 (nI bs.length) (nI (100 * f + i)) = some (bv b, maS ms 36 g') ∧ f_X4_holds_39 n cs (nI f) v2 v3 v4 (nI st.length) x (nI i) = some (bv b) := by
  intro n
  induction n with
  | zero => intro i bs g x h1 h2; omega
  | succ n ih =>
    intro i bs g x h1 h2 hbs hd h9 h8
    have e31' : ma (maS ms 36 g) 31 f = nI st.length := e31
    have e100 : (100 : Int32) * nI f + nI st.length = nI (100 * f + st.length) := by rw [show (100 : Int32) = nI 100 from rfl, nI_mul, nI_add]
    rw [f_X9_asks_9, f_X4_holds_39, ldI_n (by omega) (by omega), some_bind, e31', e100]
    by_cases q : i = st.length
    · subst q
      rw [List.drop_length] at hd
      have hl1 : bs.length = 1 := Option.some.inj hd
      obtain ⟨b, rfl⟩ : ∃ b, bs = [b] := List.length_eq_one_iff.mp hl1
      rw [if_pos (nI_le (Nat.le_refl _) (by omega)), if_pos (nI_le (Nat.le_refl _) (by omega)), holds_end h8, show ldI (ma (maS ms 36 g) 36) 110 0 = some (g 0) from ldI_n (k := 0) (by omega) (by omega), some_bind, show g 0 = bv b from h9.1, gd_t (by cases b; exact Or.inl rfl; exact Or.inr rfl)]
      exact ⟨b, g, rfl, rfl⟩
    have hi : i < st.length := by omega
    rw [List.drop_eq_getElem_cons hi] at hd
    obtain ⟨t1, t2, t3, t4, t5, t6, t7⟩ := hst i st[i] (List.getElem?_eq_getElem hi)
    generalize st[i] = s at hd t1 t2 t3 t4 t5 t6 t7
    have hz : 100 * f + i < 3000 := by omega
    have hz2 : 100 * f + i < 3200 := by omega
    have hz31 : 100 * f + i < 2 ^ 31 := by omega
    have t5' : ma (maS ms 36 g) 32 (100 * f + i) = nI s.1 := t5
    have t6' : ma (maS ms 36 g) 33 (100 * f + i) = nI s.2.1 := t6
    have t7' : ma (maS ms 36 g) 34 (100 * f + i) = nI s.2.2 := t7
    have e36 : ma (maS ms 36 g) 36 = g := rfl
    obtain ⟨u1, u2, u3⟩ := step_nums t1 t2 t3
    have hpl : f_X4_stepPlace cs (nI f) (nI i) = some (nI (100 * f + i)) := by
      unfold f_X4_stepPlace
      rw [show nI f * (100 : Int32) + nI i = nI (100 * f + i) by rw [show (100 : Int32) = nI 100 from rfl, nI_mul, nI_add, Nat.mul_comm], if_neg (nI_pos (by omega)), if_neg (nI_pos (by omega)), if_neg (nI_pos (by omega)), if_neg (show ¬ (3000 : Int32) ≤ nI (100 * f + i) from nI_ge (b := 3000) (by omega) (by omega))]
    rw [if_neg (nI_ge (by omega) (by omega)), if_neg (nI_ge (by omega) (by omega)), hpl, some_bind, if_neg (nI_ne_neg (by omega)), ldI_n hz hz31, some_bind, t4, ldI_n hz2 hz31, some_bind, t5']
    unfold f_X4_holds_72 f_X3_signOf
    rw [some_bind, u1]
    have hN : ∀ k, k < 10 → (nI s.1 = nI k ↔ s.1 = k) := fun k hk => ⟨fun z => nI_inj (by omega) (by omega) z, fun z => by rw [z]⟩
    have N0 : nI s.1 = 0 ↔ s.1 = 0 := hN 0 (by omega)
    have N1 : nI s.1 = 1 ↔ s.1 = 1 := hN 1 (by omega)
    have N2 : nI s.1 = 2 ↔ s.1 = 2 := hN 2 (by omega)
    have N3 : nI s.1 = 3 ↔ s.1 = 3 := hN 3 (by omega)
    have N4 : nI s.1 = 4 ↔ s.1 = 4 := hN 4 (by omega)
    have N5 : nI s.1 = 5 ↔ s.1 = 5 := hN 5 (by omega)
    rw [dep] at hd
    have hbl : bs.length < 2 ^ 31 := by omega
    by_cases c2 : s.1 ≤ 2
    · rw [if_pos c2] at hd
      by_cases c44 : bs.length < 44
      · rw [if_pos c44] at hd
        have next : ∀ b : Bool, ∃ b' g', (ixr 110 (nI bs.length) <| f_X9_asks_9 n (maU (maS ms 36 g) 36 (nI bs.length).toNatClampNeg (vp_nar .boolean (bv b))) (nI f) v2 v3 v4 (nI bs.length + 1) (nI (100 * f + i) + 1)) = some (bv b', maS ms 36 g') ∧ f_X4_holds_39 n cs (nI f) v2 v3 v4 (nI st.length) ((x <<< ((1 : Int32).toInt64 &&& 63)) ||| (bv b).toInt64) (nI i + 1) = some (bv b') := by
          intro b
          rw [ixr_n (by omega) hbl, nI_clamp hbl, maS_maU, nI_1, nI_1, nI_1]
          refine ih (i + 1) (b :: bs) _ _ (by omega) (by omega) (by simp; omega) hd ⟨?_, rel9_upd bs (Nat.le_refl _) h9⟩ (rel8_push h8 c44 b)
          rw [upd_eq]
          cases b <;> rfl
        have nT := next true
        have nF := next false
        have n3 : ¬ nI s.1 = 3 := fun z => by have := N3.mp z; omega
        have n4 : ¬ nI s.1 = 4 := fun z => by have := N4.mp z; omega
        have n5 : ¬ nI s.1 = 5 := fun z => by have := N5.mp z; omega
        simp only [if_neg n3, if_neg n4, if_neg n5]
        unfold f_X3_passes f_X3_signOf
        simp only [ldI_n hz2 hz31, some_bind, t6', t7', u1, u2, u3]
        by_cases k0 : s.1 = 0
        · rw [if_pos (N0.mpr k0), if_pos (N0.mpr k0)]
          by_cases p : v2 = nI s.2.1
          · rw [if_pos p, if_pos p, some_bind, if_neg one_ne]
            exact nT
          · rw [if_neg p, if_neg p, some_bind, if_pos rfl]
            exact nF
        rw [if_neg (fun z => k0 (N0.mp z)), if_neg (fun z => k0 (N0.mp z))]
        by_cases k1 : s.1 = 1
        · rw [if_pos (N1.mpr k1), if_pos (N1.mpr k1)]
          by_cases p : v3 < nI s.2.1
          · rw [if_pos p, if_pos p, some_bind, if_pos rfl]
            exact nF
          · rw [if_neg p, if_neg p]
            by_cases p2 : nI s.2.2 < v3
            · rw [if_pos p2, if_pos p2, some_bind, if_pos rfl]
              exact nF
            · rw [if_neg p2, if_neg p2, some_bind, if_neg one_ne]
              exact nT
        · have k2 : s.1 = 2 := by omega
          rw [if_neg (fun z => k1 (N1.mp z)), if_neg (fun z => k1 (N1.mp z)), if_pos (N2.mpr k2)]
          rcases and1_cases (v4 >>> (nI s.2.1 &&& 31)) with p | p
          · rw [if_pos p, if_neg (by rw [p]; decide), some_bind, if_pos rfl]
            exact nF
          · rw [if_pos p, if_neg (by rw [p]; decide), some_bind, if_neg one_ne]
            exact nT
      · rw [if_neg c44] at hd; cases hd
    · rw [if_neg c2] at hd
      rw [if_neg (fun z => by have := N0.mp z; omega), if_neg (fun z => by have := N1.mp z; omega), if_neg (fun z => by have := N2.mp z; omega)]
      by_cases c3 : s.1 = 3
      · rw [if_pos c3] at hd
        rw [if_pos (N3.mpr c3), if_pos (N3.mpr c3), e36]
        cases bs with
        | nil => rw [if_neg (by simp)] at hd; cases hd
        | cons b bs =>
          rw [if_pos (by simp)] at hd
          have hl : (b :: bs).length = bs.length + 1 := rfl
          rw [hl] at hd hbs ⊢
          rw [nI_sub1 (by omega), Nat.add_sub_cancel, ldI_n (by omega) (by omega), some_bind, h9.1]
          have key : ∀ v, v = bv (!b) → ∃ b' g', (ixr 110 (nI bs.length) <| f_X9_asks_9 n (maU (maS ms 36 g) 36 (nI bs.length).toNatClampNeg (vp_nar .boolean v)) (nI f) v2 v3 v4 (nI (bs.length + 1)) (nI (100 * f + i) + 1)) = some (bv b', maS ms 36 g') ∧ f_X4_holds_39 n cs (nI f) v2 v3 v4 (nI st.length) (x ^^^ 1) (nI i + 1) = some (bv b') := by
            rintro v rfl
            rw [ixr_n (by omega) (by omega), nI_clamp (by omega), maS_maU, nI_1, nI_1]
            refine ih (i + 1) ((!b) :: bs) _ _ (by omega) (by omega) (by simp; omega) hd ⟨?_, rel9_upd bs (Nat.le_refl _) h9.2⟩ (rel8_not h8 (by omega))
            rw [upd_eq]
            cases b <;> rfl
          cases b with
          | false =>
            rw [if_pos (show bv false = 0 from rfl)]
            exact key 1 rfl
          | true =>
            rw [if_neg (show ¬ bv true = 0 from one_ne)]
            exact key 0 rfl
      · rw [if_neg c3] at hd
        rw [if_neg (fun z => c3 (N3.mp z)), if_neg (fun z => c3 (N3.mp z))]
        by_cases d2 : 2 ≤ bs.length
        · rw [if_pos d2] at hd
          cases bs with
          | nil => simp at d2
          | cons b bs =>
            cases bs with
            | nil => simp at d2
            | cons c bs =>
              have hl : (b :: c :: bs).length = bs.length + 2 := rfl
              rw [hl] at hd hbs ⊢
              rw [show bs.length + 2 - 1 = bs.length + 1 by omega] at hd
              have hb1 : g (bs.length + 1) = bv b := h9.1
              have hc1 : g bs.length = bv c := h9.2.1
              have m1 : nI (bs.length + 2) + -1 = nI (bs.length + 1) := by rw [m1_sub, nI_sub1 (by omega)]; rfl
              have m2 : nI (bs.length + 1) - 1 = nI bs.length := by rw [nI_sub1 (by omega)]; rfl
              by_cases c4 : s.1 = 4
              · rw [if_pos (N4.mpr c4), if_pos (N4.mpr c4), e36, m1, m2, ldI_n (by omega) (by omega), some_bind, ldI_n (by omega) (by omega), some_bind, hb1, hc1]
                have key : ∀ v, v = bv (c && b) → ∃ b' g', (ixr 110 (nI bs.length) <| f_X9_asks_9 n (maU (maS ms 36 g) 36 (nI bs.length).toNatClampNeg (vp_nar .boolean v)) (nI f) v2 v3 v4 (nI (bs.length + 1)) (nI (100 * f + i) + 1)) = some (bv b', maS ms 36 g') ∧ f_X4_holds_39 n cs (nI f) v2 v3 v4 (nI st.length) ((x.toUInt64 >>> ((1 : Int32).toInt64.toUInt64 &&& Int64.toUInt64 63)).toInt64 &&& (x ||| (-2 : Int64))) (nI i + 1) = some (bv b') := by
                  rintro v rfl
                  rw [ixr_n (by omega) (by omega), nI_clamp (by omega), maS_maU, nI_1, nI_1]
                  refine ih (i + 1) ((c && b) :: bs) _ _ (by omega) (by omega) (by simp; omega) hd ⟨?_, rel9_upd bs (Nat.le_refl _) h9.2.2⟩ (rel8_and h8 (by omega))
                  rw [upd_eq]
                  cases b <;> cases c <;> rfl
                cases c with
                | false =>
                  rw [if_pos (show bv false = 0 from rfl)]
                  exact key 0 (by cases b <;> rfl)
                | true =>
                  rw [if_neg (show ¬ bv true = 0 from one_ne)]
                  cases b with
                  | false => rw [if_pos (show bv false = 0 from rfl)]; exact key 0 rfl
                  | true => rw [if_neg (show ¬ bv true = 0 from one_ne)]; exact key 1 rfl
              · rw [if_neg (fun z => c4 (N4.mp z)), if_neg (fun z => c4 (N4.mp z)), if_pos (N5.mpr (by omega)), e36, m1, m2, ldI_n (by omega) (by omega), some_bind, ldI_n (by omega) (by omega), some_bind, hb1, hc1]
                have key : ∀ v, v = bv (c || b) → ∃ b' g', (ixr 110 (nI bs.length) <| f_X9_asks_9 n (maU (maS ms 36 g) 36 (nI bs.length).toNatClampNeg (vp_nar .boolean v)) (nI f) v2 v3 v4 (nI (bs.length + 1)) (nI (100 * f + i) + 1)) = some (bv b', maS ms 36 g') ∧ f_X4_holds_39 n cs (nI f) v2 v3 v4 (nI st.length) ((x.toUInt64 >>> ((1 : Int32).toInt64.toUInt64 &&& Int64.toUInt64 63)).toInt64 ||| (x &&& (1 : Int64))) (nI i + 1) = some (bv b') := by
                  rintro v rfl
                  rw [ixr_n (by omega) (by omega), nI_clamp (by omega), maS_maU, nI_1, nI_1]
                  refine ih (i + 1) ((c || b) :: bs) _ _ (by omega) (by omega) (by simp; omega) hd ⟨?_, rel9_upd bs (Nat.le_refl _) h9.2.2⟩ (rel8_or h8 (by omega))
                  rw [upd_eq]
                  cases b <;> cases c <;> rfl
                cases c with
                | false =>
                  rw [if_pos (show bv false = 0 from rfl)]
                  cases b with
                  | false => rw [if_pos (show bv false = 0 from rfl)]; exact key 0 rfl
                  | true => rw [if_neg (show ¬ bv true = 0 from one_ne)]; exact key 1 rfl
                | true =>
                  rw [if_neg (show ¬ bv true = 0 from one_ne)]
                  exact key 1 (by cases b <;> rfl)
        · rw [if_neg d2] at hd; cases hd
theorem says_n {cs : CS} {ms : MS} (hF : RFt cs ms) {f : Nat} (hlt : nI f < mi ms 3) (hf : f < 30) (v2 v3 v4 : Int32) : ∃ b g', f_X9_asks ms (nI f) v2 v3 v4 = some (bv b, maS ms 36 g') ∧ f_X4_holds cs (nI f) v2 v3 v4 = some (bv b) := by
  obtain ⟨m, hm, i1, i2, i3⟩ := hF
  have hfm : f < m := by rw [i2] at hlt; exact (nI_lt_iff (by omega) (by omega)).mp hlt
  obtain ⟨st, s1, s2, s3, s4, s5⟩ := i3 f hfm
  obtain ⟨b, g', a1, a2⟩ := asks_loop hf s1 s4 s5 v2 v3 v4 1000 0 [] (ma ms 36) 0 (by omega) (by omega) (by simp) s2 trivial (fun j b h => by simp at h)
  refine ⟨b, g', ?_, ?_⟩
  · unfold f_X9_asks
    rw [show (100 : Int32) * nI f = nI (100 * f + 0) by rw [show (100 : Int32) = nI 100 from rfl, nI_mul]; rfl]
    have e : maS ms 36 (ma ms 36) = ms := by
      show (_, _, va_up ms.2.2.1 36 (ms.2.2.1 36), _) = ms
      rw [va_up_id]
    rw [e] at a1
    exact a1
  · unfold f_X4_holds
    rw [if_neg (nI_pos (by omega)), i1, if_neg (nI_ge hfm (by omega)), if_neg (show ¬ (30 : Int32) ≤ nI f from nI_ge (b := 30) hf (by omega)), ldI_n hf (by omega), some_bind, s3]
    exact a2
theorem P_says : H_says RR := by
  rintro cs ms v1 v2 v3 v4 hR
  have hX0 : RR cs (miU ms 0 0) := hR
  have hX1 : RR cs (miU ms 0 1) := hR
  obtain ⟨-, -, h3, -⟩ := id hX0
  obtain ⟨m, hm, i1, i2, -⟩ := id h3
  unfold f_X8_says f_X9_says f_X4_made
  rw [i1, i2]
  by_cases q1 : v1 < 0
  · rw [if_pos q1, if_pos q1, may_0 (t := 0) (by decide), b2_some, if_pos rfl]
    exact ⟨_, _, rfl, _, _, rfl, agr_r rfl (by simp) hX1⟩
  obtain ⟨f, hf, rfl⟩ := nI_of q1
  rw [if_neg q1, if_neg q1, some_bind]
  by_cases q2 : m ≤ f
  · rw [if_pos (nI_le q2 hf), if_neg (nI_nlt q2 hf), may_0 (t := 0) (by decide), b2_some, if_pos rfl]
    exact ⟨_, _, rfl, _, _, rfl, agr_r rfl (by simp) hX1⟩
  · rw [if_neg (nI_ge (by omega) (by omega)), if_pos (nI_lt (by omega) (by omega)), may_1, b2_some, if_neg one_ne]
    obtain ⟨b, g', a1, a2⟩ := says_n h3 (f := f) (by rw [i2]; exact nI_lt (by omega) (by omega)) (by omega) v2 v3 v4
    have hX : RR cs (maS (miU ms 0 0) 36 g') := hX0
    rw [a1, a2, b2_some, some_bind, gd_t (by cases b; exact Or.inl rfl; exact Or.inr rfl)]
    cases b with
    | false =>
      rw [if_pos (show bv false = 0 from rfl)]
      exact ⟨_, _, rfl, _, _, rfl, agr_l rfl hX⟩
    | true =>
      rw [if_neg (show ¬ bv true = 0 from one_ne)]
      exact ⟨_, _, rfl, _, _, rfl, agr_l rfl hX⟩

/-! ===== sell ===== -/
theorem sold_n {cs : CS} {ms : MS} (hR : RR cs ms) (z8 : ci cs 11 = 0) (z9 : mi ms 11 = 0) {i a c m p k' : Nat} (h : ItOK cs ms i a c m p k') (hlt : nI i < mi ms 12) (h0 : ma ms 65 i = 0) (pr : Int32) : ∃ cs' ms', f_X8_sellFor cs (some a) pr = some (pr, cs') ∧ f_X9_sells ms (nI i) pr = some ms' ∧ RR cs' ms' ∧ mi ms' 0 = mi ms 0 ∧ ci cs' 11 = 0 ∧ mi ms' 11 = 0 ∧ mi ms' 12 = mi ms 12 ∧ ∀ j b c' m' p' k2, j ≠ i → b ≠ a → ItOK cs ms j b c' m' p' k2 → ItOK cs' ms' j b c' m' p' k2 ∧ f_X9_valueOf ms' (nI j) = f_X9_valueOf ms (nI j) ∧ ma ms' 65 j = ma ms 65 j := by
  obtain ⟨h1, h2, h3, h4, h5, h6, h7, h8, h9, ⟨dd, hd, d1, d2⟩, h11⟩ := hR
  obtain ⟨s, hs, h43, mv⟩ := move_n (w0 := 0) (w := 1) h4 h (by omega) h0 (by omega) (Or.inl (by omega))
  obtain ⟨hA, hi, hc, hc9, e63, hm, e46, hk', e37, hp, e64, e1, e2, hpk⟩ := id h
  obtain ⟨x1, x2, x3, -⟩ := id hA
  have hi31 : i < 2 ^ 31 := by omega
  have hz : 24 * m + p < 192 := by omega
  have hz31 : 24 * m + p < 2 ^ 31 := by omega
  have hc31 : c < 2 ^ 31 := by omega
  have hs31 : s < 2 ^ 31 := by omega
  rw [if_pos rfl] at mv
  generalize hg : ma ms 42 (24 * m + p) = g at mv
  refine ⟨cjU (cpU (moved cs a (mvW (ca cs 10) s 2 3 g) 1 (ci cs 2 - 1)) a 5 pr) 0 (cj cs 0 + pr.toInt64), mbU (mbU (miU (mjU (maU (maU (maU ms 65 i 1) 66 i (mi ms 10)) 67 i pr) 0 (mj ms 0 + pr.toInt64)) 13 (mi ms 13 - 1)) 58 s (mb ms 58 s - g.toInt64)) 56 s (mb ms 56 s + g.toInt64), ?_, ?_, ⟨h1, h2, h3, h4, ?_, ?_, ?_, ?_, h9, ⟨dd, hd, d1, d2⟩, ?_⟩, rfl, z8, z9, rfl, ?_⟩
  · unfold f_X8_sellFor
    rw [ob_some, show f_X8_move cs (some a) 1 = _ from mv, some_bind, gd_t ⟨x2, x3⟩]
    rfl
  · unfold f_X9_sells
    simp only [f_X9_stuffOf, f_X9_gramsOf, f_X9_partOf, l24, nI_mul, nI_add, ixr_n hi hi31, nI_clamp hi31, pa_1, pa_2, pa_3, pa_5 (show (63 : Nat) ≠ 65 by decide), pa_5 (show (63 : Nat) ≠ 66 by decide), pa_5 (show (63 : Nat) ≠ 67 by decide), pa_5 (show (46 : Nat) ≠ 65 by decide), pa_5 (show (46 : Nat) ≠ 66 by decide), pa_5 (show (46 : Nat) ≠ 67 by decide), pa_5 (show (64 : Nat) ≠ 65 by decide), pa_5 (show (64 : Nat) ≠ 66 by decide), pa_5 (show (64 : Nat) ≠ 67 by decide), pa_5 (show (43 : Nat) ≠ 65 by decide), pa_5 (show (43 : Nat) ≠ 66 by decide), pa_5 (show (43 : Nat) ≠ 67 by decide), pa_5 (show (42 : Nat) ≠ 65 by decide), pa_5 (show (42 : Nat) ≠ 66 by decide), pa_5 (show (42 : Nat) ≠ 67 by decide), pb_1, pb_2, pb_3, pb_5 (show (56 : Nat) ≠ 58 by decide), pi_1, pi_2, pi_3, pj_1, ldI_n hi hi31, e63, ldI_n hc hc31, e46, e64, ldI_n hz hz31, h43, hg, ldL_n hs hs31, ixr_n hs hs31, nI_clamp hs31, some_bind]
  · have t1 : RCr (cpU cs a 3 1) ms := RCr_cpI h5 x3
    have t2 : RCr (cpU (cpU cs a 3 1) a 4 (ci cs 3)) ms := RCr_cpI t1 x3
    have t3 : RCr (cpU (cpU (cpU cs a 3 1) a 4 (ci cs 3)) a 5 pr) ms := RCr_cpI t2 x3
    exact t3
  · refine RIt_set (d := ci cs 3) (w := 1) h6 hi hlt hA (by omega) rfl rfl rfl rfl rfl (fun b k hb => ?_) ?_ ?_ ?_ ?_ ?_ rfl rfl rfl rfl rfl rfl ?_ (fun j hj => ?_) (fun _ => ?_) (fun n hn c1 c2 c3 => ?_)
    · exact (cp_ne hb).trans ((cp_ne hb).trans (cp_ne hb))
    · exact (cp_nf (by decide)).trans ((cp_nf (by decide)).trans (cp_nf (by decide)))
    · exact (cp_nf (by decide)).trans ((cp_nf (by decide)).trans (cp_nf (by decide)))
    · exact (cp_nf (by decide)).trans ((cp_nf (by decide)).trans (cp_nf (by decide)))
    · exact (cp_nf (by decide)).trans ((cp_nf (by decide)).trans cp_eq)
    · exact (cp_nf (by decide)).trans cp_eq
    · show upd (ma ms 66) i (mi ms 10) = _
      rw [d1, d2]
    · exact upd_ne hj
    · exact cp_eq.trans upd_eq.symm
    · have c3' := c3 h0
      refine ⟨n - 1, by omega, ?_, ?_, ?_⟩
      · show ci cs 2 - 1 = _
        rw [c1, nI_sub1 (by omega)]
      · show mi ms 13 - 1 = _
        rw [c2, nI_sub1 (by omega)]
      · rw [if_pos h0, if_neg (by omega)]; omega
  · exact RWf_sell h7
  · exact ⟨0, by omega, z8, z9, fun j hj => absurd hj (by omega), fun j j' hj => absurd hj (by omega)⟩
  · exact congrArg (· + pr.toInt64) h11
  · rintro j b c' m' p' k2 hji hba ⟨⟨b1, b2, b3, b4, b5, b6, b7, b8, b9⟩, b10, b11, b12, b13, b14, b15, b16, b17, b18, b19, b20, b21, b22⟩
    have w65 : upd (ma ms 65) i 1 j = ma ms 65 j := upd_ne hji
    have w66 : upd (ma ms 66) i (mi ms 10) j = ma ms 66 j := upd_ne hji
    have w67 : upd (ma ms 67) i pr j = ma ms 67 j := upd_ne hji
    have wp : ∀ k x, cp (cpU (cpU (cpU x a 3 1) a 4 (ci cs 3)) a 5 pr) b k = cp x b k := fun k x => (cp_ne hba).trans ((cp_ne hba).trans (cp_ne hba))
    refine ⟨⟨⟨b1, b2, b3, (wp 0 cs).trans b4, (wp 2 cs).trans b5, (wp 3 cs).trans (b6.trans w65.symm), (wp 4 cs).trans (b7.trans w66.symm), fun q => (wp 5 cs).trans ((b8 (w65.symm.trans q)).trans w67.symm), fun c q1 q2 => (wp 1 cs).trans (b9 c q1 q2)⟩, b10, b11, b12, b13, b14, b15, b16, b17, b18, b19, (wp 1 cs).trans b20, (wp 2 cs).trans b21, b22⟩, ?_, w65⟩
    have hj31 : j < 2 ^ 31 := by omega
    have hm5 : 24 * m' + p' < 192 := by omega
    have v53 : ∀ (X Y : MS) (f : Nat) (x y z : Int32), f_X9_valueOf_53 f X x y z = f_X9_valueOf_53 f Y x y z := by
      intro X Y f
      induction f with
      | zero => intro x y z; rfl
      | succ f ih => intro x y z; rw [f_X9_valueOf_53, f_X9_valueOf_53, ih]
    unfold f_X9_valueOf f_X9_partOf
    simp only [l24, nI_mul, nI_add, pa_1, pa_2, pa_3, pi_1, pi_2, pi_3, pi_5 (show (10 : Nat) ≠ 13 by decide), pa_5 (show (63 : Nat) ≠ 65 by decide), pa_5 (show (63 : Nat) ≠ 66 by decide), pa_5 (show (63 : Nat) ≠ 67 by decide), pa_5 (show (46 : Nat) ≠ 65 by decide), pa_5 (show (46 : Nat) ≠ 66 by decide), pa_5 (show (46 : Nat) ≠ 67 by decide), pa_5 (show (64 : Nat) ≠ 65 by decide), pa_5 (show (64 : Nat) ≠ 66 by decide), pa_5 (show (64 : Nat) ≠ 67 by decide), pa_5 (show (38 : Nat) ≠ 65 by decide), pa_5 (show (38 : Nat) ≠ 66 by decide), pa_5 (show (38 : Nat) ≠ 67 by decide), pa_5 (show (44 : Nat) ≠ 65 by decide), pa_5 (show (44 : Nat) ≠ 66 by decide), pa_5 (show (44 : Nat) ≠ 67 by decide), pa_5 (show (66 : Nat) ≠ 67 by decide), pa_4, pa_5 (show (66 : Nat) ≠ 65 by decide), ldI_n b10 hj31, ldI_n hm5 (show 24 * m' + p' < 2 ^ 31 by omega), w66, some_bind, b13, b15, b19, ldI_n b11 (show c' < 2 ^ 31 by omega), v53 _ ms]
/-- the other of a pair, as the class and the reference ask for it -/
def Mate (ms : MS) (i j : Nat) : Prop := j ≠ i ∧ ma ms 65 j = 0 ∧ ma ms 63 j = ma ms 63 i ∧ ∃ z z', f_X9_partOf ms (nI j) = some (nI z) ∧ z < 192 ∧ ma ms 38 z = 1 ∧ f_X9_partOf ms (nI i) = some (nI z') ∧ z' < 192 ∧ ma ms 39 z = ma ms 39 z'
theorem mate_loop8 {cs : CS} {ms : MS} (hC : RCr cs ms) (hMd : RMd cs ms) (hI : RIt cs ms) {i a c m p k' : Nat} (h : ItOK cs ms i a c m p k') (hlt : nI i < mi ms 12) : ∀ (f n j : Nat), mi ms 12 = nI n → n ≤ 400 → j ≤ n → n + 1 ≤ j + f → ((∀ y, j ≤ y → y < n → ¬ Mate ms i y) ∧ f_X8_otherOfPair_2 f cs a (nI j) = some none) ∨ ∃ y b, j ≤ y ∧ y < n ∧ Mate ms i y ∧ (∀ x, j ≤ x → x < y → ¬ Mate ms i x) ∧ cg cs 9 y = some b ∧ f_X8_otherOfPair_2 f cs a (nI j) = some (some b) := by
  obtain ⟨hA, hi, hc, hc9, e63, hm, e46, hk', e37, hp, e64, e1, e2, hpk⟩ := id h
  obtain ⟨n9, hn9, i1, i2, -, i4, -⟩ := id hI
  obtain ⟨x1, x2, x3, y0, -⟩ := id hA
  obtain ⟨-, f1, -⟩ := fact_at hMd hm hk' e37 hp
  have hip : i < n9 := by rw [i2] at hlt; exact (nI_lt_iff (by omega) (by omega)).mp hlt
  intro f
  induction f with
  | zero => intro n j g1 g2 g3 g4; omega
  | succ f ih =>
    intro n j g1 g2 g3 g4
    obtain rfl : n = n9 := nI_inj (by omega) (by omega) (g1.symm.trans i2)
    rw [f_X8_otherOfPair_2, i1]
    by_cases q : n ≤ j
    · rw [if_pos (nI_le q (by omega))]
      exact Or.inl ⟨fun y q1 q2 => absurd q2 (by omega), rfl⟩
    have hjn : nI j < mi ms 12 := by rw [i2]; exact nI_lt (by omega) (by omega)
    obtain ⟨b, c', m', p', k2, hB⟩ := item_ok hC hI (i := j) (by omega) hjn
    obtain ⟨hbA, bi, bc, bc9, b63, bm, b46, bk', b37, bp, b64, b1, b2, bpk⟩ := id hB
    obtain ⟨g0, g1', -⟩ := fact_at hMd bm bk' b37 bp
    obtain ⟨w1, w2, w3, v0, v2, v3, -⟩ := id hbA
    have hat : f_X8_itemAt cs (nI j) = some (some b) := by
      unfold f_X8_itemAt
      rw [if_neg (nI_pos (by omega)), i1, if_neg (nI_ge (by omega) (by omega)), if_neg (show ¬ (400 : Int32) ≤ nI j from nI_ge (b := 400) (by omega) (by omega)), ldQ_n (by omega) (by omega), some_bind, w1, ob_some]
    rw [if_neg (nI_ge (by omega) (by omega)), hat, some_bind, ob_some, nI_1]
    have next : ¬ Mate ms i j → ((∀ y, j ≤ y → y < n → ¬ Mate ms i y) ∧ f_X8_otherOfPair_2 f cs a (nI (j + 1)) = some none) ∨ ∃ y b, j ≤ y ∧ y < n ∧ Mate ms i y ∧ (∀ x, j ≤ x → x < y → ¬ Mate ms i x) ∧ cg cs 9 y = some b ∧ f_X8_otherOfPair_2 f cs a (nI (j + 1)) = some (some b) := by
      intro hno
      rcases ih n (j + 1) g1 g2 (by omega) (by omega) with ⟨r1, r2⟩ | ⟨y, b', r1, r2, r3, r4, r5, r6⟩
      · refine Or.inl ⟨fun y s1 s2 => ?_, r2⟩
        by_cases s : y = j
        · rw [s]; exact hno
        · exact r1 y (by omega) s2
      · refine Or.inr ⟨y, b', by omega, r2, r3, fun x s1 s2 => ?_, r5, r6⟩
        by_cases s : x = j
        · rw [s]; exact hno
        · exact r4 x (by omega) s2
    by_cases q1 : b = a
    · have hji : j = i := i4 j i a (by omega) hip (q1 ▸ w1) x1
      rw [if_pos (by rw [q1])]
      exact next fun z => z.1 hji
    have hji : j ≠ i := fun z => q1 (Option.some.inj (w1.symm.trans ((congrArg (cg cs 9) z).trans x1)))
    rw [if_neg (fun z => q1 (Option.some.inj z)), gd_t ⟨w2, w3⟩, v3]
    by_cases q2 : ma ms 65 j = 0
    · rw [if_pos q2, gd_t ⟨x2, x3⟩, v0, y0]
      by_cases q3 : ma ms 63 j = ma ms 63 i
      · rw [if_pos q3, ifact hB, g0, some_bind]
        by_cases q4 : ma ms 38 (24 * m' + p') = 1
        · rw [if_pos q4, ifact hB, g1', some_bind, ifact h, f1, some_bind]
          by_cases q5 : ma ms 39 (24 * m' + p') = ma ms 39 (24 * m + p)
          · rw [if_pos q5]
            exact Or.inr ⟨j, b, by omega, by omega, ⟨hji, q2, q3, _, _, ipart hB, by omega, q4, ipart h, by omega, q5⟩, fun x s1 s2 => absurd s1 (by omega), w1, rfl⟩
          · rw [if_neg q5]
            refine next fun z => ?_
            obtain ⟨-, -, -, z1, z2, t1, t2, t3, t4, t5, t6⟩ := z
            rw [ipart hB] at t1
            rw [ipart h] at t4
            rw [← nI_inj (by omega) (by omega) (Option.some.inj t1), ← nI_inj (by omega) (by omega) (Option.some.inj t4)] at t6
            exact q5 t6
        · rw [if_neg q4]
          refine next fun z => ?_
          obtain ⟨-, -, -, z1, z2, t1, t2, t3, -⟩ := z
          rw [ipart hB] at t1
          rw [← nI_inj (by omega) (by omega) (Option.some.inj t1)] at t3
          exact q4 t3
      · rw [if_neg q3]
        exact next fun z => q3 z.2.2.1
    · rw [if_neg q2]
      exact next fun z => q2 z.2.1
theorem m1_sub (x : Int32) : x + -1 = x - 1 := by grind
theorem mate_loop9 {cs : CS} {ms : MS} (hC : RCr cs ms) (hI : RIt cs ms) {i a c m p k' : Nat} (h : ItOK cs ms i a c m p k') (hlt : nI i < mi ms 12) (h38 : ma ms 38 (24 * m + p) = 1) (v4 : Int32) : ∀ (f n j : Nat) (o : Int32), mi ms 12 = nI n → n ≤ 400 → j ≤ n → j + 1 ≤ f → ((o = -1 ∧ ∀ y, j ≤ y → y < n → ¬ Mate ms i y) ∨ (∃ y, o = nI y ∧ j ≤ y ∧ y < n ∧ Mate ms i y ∧ ∀ x, j ≤ x → x < y → ¬ Mate ms i x)) → ∃ (kk : MS → Int32 → Int32 → Int32 → Int32 → Int32 → Option (Int32 × MS)) (o' : Int32), f_X9_sell_94 f ms (nI i) (nI (24 * m + p)) v4 o (nI j - 1) = f_X9_sell_186 kk ms (nI i) (nI (24 * m + p)) v4 o' ∧ ((o' = -1 ∧ ∀ y, y < n → ¬ Mate ms i y) ∨ (∃ y, o' = nI y ∧ y < n ∧ Mate ms i y ∧ ∀ x, x < y → ¬ Mate ms i x)) := by
  obtain ⟨hA, hi, hc, hc9, e63, hm, e46, hk', e37, hp, e64, e1, e2, hpk⟩ := id h
  intro f
  induction f with
  | zero => intro n j o g1 g2 g3 g4; omega
  | succ f ih =>
    intro n j o g1 g2 g3 g4 hinv
    rw [f_X9_sell_94]
    by_cases q : j = 0
    · subst q
      rw [if_pos (show nI 0 - 1 < 0 by decide)]
      refine ⟨f_X9_sell_94 f, o, rfl, ?_⟩
      rcases hinv with ⟨r1, r2⟩ | ⟨y, r1, r2, r3, r4, r5⟩
      · exact Or.inl ⟨r1, fun y s => r2 y (by omega) s⟩
      · exact Or.inr ⟨y, r1, r3, r4, fun x s => r5 x (by omega) s⟩
    obtain ⟨jj, rfl⟩ : ∃ jj, j = jj + 1 := ⟨j - 1, by omega⟩
    have hjn : nI jj < mi ms 12 := by rw [g1]; exact nI_lt (by omega) (by omega)
    obtain ⟨b, c', m', p', k2, hB⟩ := item_ok hC hI (i := jj) (by omega) hjn
    obtain ⟨hbA, bi, bc, bc9, b63, bm, b46, bk', b37, bp, b64, b1, b2, bpk⟩ := id hB
    have hi31 : i < 2 ^ 31 := by omega
    have hz : 24 * m + p < 192 := by omega
    have hz31 : 24 * m + p < 2 ^ 31 := by omega
    have bi31 : jj < 2 ^ 31 := by omega
    have bz : 24 * m' + p' < 192 := by omega
    have bz31 : 24 * m' + p' < 2 ^ 31 := by omega
    rw [nI_sub1 (by omega), show jj + 1 - 1 = jj by omega, if_neg (nI_pos (by omega)), ldI_n hz hz31, some_bind, if_pos h38]
    have s180 : ∀ o, f_X9_sell_180 (f_X9_sell_94 f) ms (nI i) (nI (24 * m + p)) v4 o (nI jj) = f_X9_sell_94 f ms (nI i) (nI (24 * m + p)) v4 o (nI jj - 1) := fun o => congrArg (f_X9_sell_94 f ms (nI i) (nI (24 * m + p)) v4 o) (m1_sub _)
    have next : ¬ Mate ms i jj → ∃ (kk : MS → Int32 → Int32 → Int32 → Int32 → Int32 → Option (Int32 × MS)) (o' : Int32), f_X9_sell_180 (f_X9_sell_94 f) ms (nI i) (nI (24 * m + p)) v4 o (nI jj) = f_X9_sell_186 kk ms (nI i) (nI (24 * m + p)) v4 o' ∧ ((o' = -1 ∧ ∀ y, y < n → ¬ Mate ms i y) ∨ (∃ y, o' = nI y ∧ y < n ∧ Mate ms i y ∧ ∀ x, x < y → ¬ Mate ms i x)) := by
      intro hno
      rw [s180]
      refine ih n jj o g1 g2 (by omega) (by omega) ?_
      rcases hinv with ⟨r1, r2⟩ | ⟨y, r1, r2, r3, r4, r5⟩
      · refine Or.inl ⟨r1, fun y s1 s2 => ?_⟩
        by_cases s : y = jj
        · rw [s]; exact hno
        · exact r2 y (by omega) s2
      · refine Or.inr ⟨y, r1, by omega, r3, r4, fun x s1 s2 => ?_⟩
        by_cases s : x = jj
        · rw [s]; exact hno
        · exact r5 x (by omega) s2
    by_cases q1 : jj = i
    · rw [if_pos (by rw [q1])]
      exact next fun z => z.1 q1
    rw [if_neg (fun z => q1 (nI_inj (by omega) (by omega) z)), ldI_n bi bi31, some_bind]
    by_cases q2 : ma ms 65 jj = 0
    · rw [if_pos q2, ldI_n bi bi31, some_bind, ldI_n hi hi31, some_bind]
      by_cases q3 : ma ms 63 jj = ma ms 63 i
      · rw [if_pos q3, ipart hB, some_bind, ldI_n bz bz31, some_bind]
        by_cases q4 : ma ms 38 (24 * m' + p') = 1
        · rw [if_pos q4, some_bind, ldI_n bz bz31, some_bind, ldI_n hz hz31, some_bind]
          by_cases q5 : ma ms 39 (24 * m' + p') = ma ms 39 (24 * m + p)
          · rw [if_pos q5, s180]
            exact ih n jj (nI jj) g1 g2 (by omega) (by omega) (Or.inr ⟨jj, rfl, by omega, by omega, ⟨q1, q2, q3, _, _, ipart hB, bz, q4, ipart h, hz, q5⟩, fun x s1 s2 => absurd s1 (by omega)⟩)
          · rw [if_neg q5]
            refine next fun z => ?_
            obtain ⟨-, -, -, z1, z2, t1, t2, t3, t4, t5, t6⟩ := z
            rw [ipart hB] at t1
            rw [ipart h] at t4
            rw [← nI_inj (by omega) (by omega) (Option.some.inj t1), ← nI_inj (by omega) (by omega) (Option.some.inj t4)] at t6
            exact q5 t6
        · rw [if_neg q4]
          refine next fun z => ?_
          obtain ⟨-, -, -, z1, z2, t1, t2, t3, -⟩ := z
          rw [ipart hB] at t1
          rw [← nI_inj (by omega) (by omega) (Option.some.inj t1)] at t3
          exact q4 t3
      · rw [if_neg q3]
        exact next fun z => q3 z.2.2.1
    · rw [if_neg q2]
      exact next fun z => q2 z.2.1
theorem mate_no {ms : MS} {v1 v4 o v6 : Int32} {z : Nat} (hz : z < 192) (h : ma ms 38 z ≠ 1) (f : Nat) : ∃ kk : MS → Int32 → Int32 → Int32 → Int32 → Int32 → Option (Int32 × MS), f_X9_sell_94 (f + 1) ms v1 (nI z) v4 o v6 = f_X9_sell_186 kk ms v1 (nI z) v4 o := by
  rw [f_X9_sell_94]
  by_cases q : v6 < 0
  · rw [if_pos q]; exact ⟨_, rfl⟩
  · rw [if_neg q, ldI_n hz (by omega), some_bind, if_neg h]; exact ⟨_, rfl⟩
theorem sell_tail {cs : CS} {ms : MS} (hR : RR cs ms) {i a c m p k' : Nat} (h : ItOK cs ms i a c m p k') (hlt : nI i < mi ms 12) (h0 : ma ms 65 i = 0) : ∃ r cs' ms', f_X9_sell_71 (miU ms 0 0) (nI i) (nI (24 * m + p)) = some (r, ms') ∧ f_X8_sell_56 cs a (ma ms 38 (24 * m + p)) = some (.inl r, cs') ∧ RR cs' ms' ∧ mi ms' 0 = 0 := by
  have hF : RR (ciU cs 11 0) (miU (miU ms 0 0) 11 0) := by
    obtain ⟨h1, h2, h3, h4, h5, h6, h7, h8, h9, h10, h11⟩ := hR
    exact ⟨h1, h2, h3, h4, h5, h6, h7, ⟨0, by omega, rfl, rfl, fun j hj => absurd hj (by omega), fun j j' hj => absurd hj (by omega)⟩, h9, h10, h11⟩
  have hO : ItOK (ciU cs 11 0) (miU (miU ms 0 0) 11 0) i a c m p k' := h
  have hz : 24 * m + p < 192 := by have := h.2.2.2.2.2.1; have := h.2.2.2.2.2.2.2.1; have := h.2.2.2.2.2.2.2.2.2.1; omega
  have hz31 : 24 * m + p < 2 ^ 31 := by omega
  obtain ⟨-, -, -, h4, h5, h6, -, -, -, ⟨d, hd, d1, d2⟩, -⟩ := id hF
  obtain ⟨v, v8, v9⟩ := value_eq h4 (d1.trans d2.symm) hO
  obtain ⟨n, hn, -, e12, -⟩ := id h6
  have hlt' : nI i < mi (miU (miU ms 0 0) 11 0) 12 := hlt
  have hin : i < n := by rw [e12] at hlt'; exact (nI_lt_iff (by have := h.2.1; omega) (by omega)).mp hlt'
  have h0' : ma (miU (miU ms 0 0) 11 0) 65 i = 0 := h0
  unfold f_X9_sell_71 f_X8_sell_56 f_X0_forget
  rw [v9, some_bind, some_bind, e12]
  have e38 : ma (miU (miU ms 0 0) 11 0) 38 = ma ms 38 := rfl
  by_cases q : ma ms 38 (24 * m + p) = 1
  · rw [if_pos q]
    obtain ⟨kk, o', l1, l2⟩ := mate_loop9 h5 h6 hO hlt' q v 1000 n n (-1) e12 (by omega) (by omega) (by omega) (Or.inl ⟨rfl, fun y s1 s2 => absurd s2 (by omega)⟩)
    have l3 := mate_loop8 h5 h4 h6 hO hlt' 1000 n 0 e12 (by omega) (by omega) (by omega)
    rw [l1]
    unfold f_X8_otherOfPair f_X9_sell_186
    rw [ob_some]
    rcases l3 with ⟨m1, m2⟩ | ⟨y, b, -, m1, m2, m3, m4, m5⟩
    · rw [show f_X8_otherOfPair_2 1000 (ciU cs 11 0) a 0 = _ from m2, some_bind, show ∀ x y, ob (none : Option Nat) x y = (x : Option ((Int32 ⊕ String) × CS)) from fun x y => rfl]
      rcases l2 with ⟨rfl, -⟩ | ⟨y', -, n1, n2, -⟩
      · rw [if_pos rfl, ldI_n hz hz31, some_bind, e38, if_pos q, v8, some_bind]
        obtain ⟨cs', ms', a1, a2, a3, a4, a5, a6, a7, -⟩ := sold_n hF rfl rfl hO hlt' h0' (v / 2)
        rw [a1, a2, b2_some, some_bind]
        exact ⟨_, _, _, rfl, rfl, a3, a4⟩
      · exact absurd n2 (m1 y' (by omega) n1)
    · rw [show f_X8_otherOfPair_2 1000 (ciU cs 11 0) a 0 = _ from m5, some_bind, ob_some]
      rcases l2 with ⟨-, n1⟩ | ⟨y', rfl, n1, n2, n3⟩
      · exact absurd m2 (n1 y m1)
      · obtain rfl : y = y' := by
          rcases Nat.lt_trichotomy y y' with z | z | z
          · exact absurd m2 (n3 y z)
          · exact z
          · exact absurd n2 (m3 y' (by omega) z)
        have hyl : nI y < mi (miU (miU ms 0 0) 11 0) 12 := by rw [e12]; exact nI_lt (by omega) (by omega)
        obtain ⟨b', c', m', p', k2, hB⟩ := item_ok h5 h6 (i := y) (by omega) hyl
        obtain rfl : b' = b := Option.some.inj (hB.1.1.symm.trans m4)
        have hba : b' ≠ a := fun z => m2.1 (by
          obtain ⟨n2, hn2, -, i2, -, i4, -⟩ := id h6
          obtain rfl : n = n2 := nI_inj (by omega) (by omega) (e12.symm.trans i2)
          exact i4 y i a m1 hin (z ▸ hB.1.1) h.1.1)
        obtain ⟨cs', ms', a1, a2, a3, a4, a5, a6, a7, a8⟩ := sold_n hF rfl rfl hO hlt' h0' v
        obtain ⟨c1, c2, c3⟩ := a8 y b' c' m' p' k2 m2.1 hba hB
        obtain ⟨-, -, -, k4, k5, k6, -, -, -, ⟨d', hd', d1', d2'⟩, -⟩ := id a3
        obtain ⟨w, w8, w9⟩ := value_eq k4 (d1'.trans d2'.symm) c1
        obtain ⟨cs2, ms2, b1, b2, b3, b4, b5, b6, b7, -⟩ := sold_n a3 a5 a6 c1 (by rw [a7]; exact hyl) (c3.trans m2.2.1) w
        rw [if_neg (nI_ne_neg (by omega)), ← c2, w9, some_bind, a2, some_bind, b2, some_bind, v8, some_bind, a1, b2_some, w8, some_bind, b1, b2_some]
        exact ⟨_, _, _, rfl, rfl, b3, b4.trans a4⟩
  · rw [if_neg q, v8, some_bind]
    obtain ⟨kk, l1⟩ := mate_no (ms := miU (miU ms 0 0) 11 0) (v1 := nI i) (v4 := v) (o := -1) (v6 := nI n - 1) hz q 999
    rw [l1]
    unfold f_X9_sell_186
    obtain ⟨cs', ms', a1, a2, a3, a4, a5, a6, a7, -⟩ := sold_n hF rfl rfl hO hlt' h0' v
    rw [if_pos rfl, ldI_n hz hz31, some_bind, e38, if_neg q, a1, a2, b2_some, some_bind]
    exact ⟨_, _, _, rfl, rfl, a3, a4⟩
theorem pick {α : Type} {v : Int32} {x y : α} (h : v = 0 ∨ v = 1) : (if v = 0 then x else if v = 1 then x else y) = x := by
  rcases h with h | h
  · rw [if_pos h]
  · by_cases q : v = 0
    · rw [if_pos q]
    · rw [if_neg q, if_pos h]
theorem pick_no {α : Type} {v : Int32} {x y z : α} (h : ¬ (v = 0 ∨ v = 1)) : (if v = 0 then x else if v = 1 then y else z) = z := by
  rw [if_neg (fun q => h (Or.inl q)), if_neg (fun q => h (Or.inr q))]
theorem P_sell : H_sell RR := by
  rintro cs ms v1 v2 hR
  have hX0 : RR cs (miU ms 0 0) := hR
  have hX1 : RR cs (miU ms 0 1) := hR
  have hX2 : RR cs (miU ms 0 2) := hR
  obtain ⟨-, -, -, h4, h5, h6, -⟩ := id hR
  unfold f_X8_sell f_X9_sell f_X9_sell_23 f_X9_sell_28
  rcases item_cases (v1 := v1) h5 h6 with ⟨i, a, c, m, p, k', rfl, hlt, hOK, -, e1, e2⟩ | ⟨e1, e2⟩
  · obtain ⟨⟨-, x2, x3, y0, y2, y3, -⟩, hi, hc, -, -, hm, -, hk', e37, hp, -⟩ := id hOK
    have hi31 : i < 2 ^ 31 := by omega
    have hz : 24 * m + p < 192 := by omega
    have hz31 : 24 * m + p < 2 ^ 31 := by omega
    have hcl : a ∈ cl cs ∧ ck cs a = 1 := ⟨x2, x3⟩
    have e65 : ma (miU ms 0 0) 65 = ma ms 65 := rfl
    have e38 : ma (miU ms 0 0) 38 = ma ms 38 := rfl
    have hP : f_X9_partOf (miU ms 0 0) (nI i) = some (nI (24 * m + p)) := ipart (ms := miU ms 0 0) hOK
    obtain ⟨f0, -⟩ := fact_at h4 hm hk' e37 hp
    rw [e1, e2, b2_some, if_neg one_ne, bx_inl, ob_some]
    by_cases qv : v2 = 0 ∨ v2 = 1
    · rw [pick qv, pick qv, may_1, b2_some, if_neg one_ne, ldI_n hi hi31, some_bind, e65]
      unfold f_X8_sell_26
      rw [gd_t hcl, y3]
      by_cases q0 : ma ms 65 i = 0
      · obtain ⟨r, cs', ms', s1, s2, s3, s4⟩ := sell_tail hR hOK hlt q0
        rw [if_pos q0, if_pos q0, hP, some_bind, ldI_n hz hz31, some_bind, e38, ifact hOK, f0, some_bind]
        by_cases q4 : ma ms 38 (24 * m + p) = 4
        · rw [if_pos q4, if_pos q4]
          by_cases qq : v2 = 0
          · rw [if_pos qq, if_pos qq]
            exact ⟨_, _, rfl, _, _, rfl, agr_l rfl hX0⟩
          · rw [if_neg qq, if_neg qq]
            exact ⟨_, _, s1, _, _, s2, agr_l s4 s3⟩
        · rw [if_neg q4, if_neg q4]
          exact ⟨_, _, s1, _, _, s2, agr_l s4 s3⟩
      · rw [if_neg q0, if_neg q0]
        exact ⟨_, _, rfl, _, _, rfl, agr_l rfl hX0⟩
    · rw [pick_no qv, pick_no qv, may_0 (t := 0) (by decide), b2_some, if_pos rfl]
      exact ⟨_, _, rfl, _, _, rfl, agr_r rfl (by simp) hX2⟩
  · rw [e1, e2, b2_some, if_pos rfl, bx_inr]
    exact ⟨_, _, rfl, _, _, rfl, agr_r rfl (by simp) hX1⟩

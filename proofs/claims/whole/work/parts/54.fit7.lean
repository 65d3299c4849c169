/-! ===== fit: the call ===== -/
theorem cK_start {b : CS} : ciU (ciU (ciU b 8 0) 9 0) 10 0 = cK b 0 0 0 (ca b 19) := by
  show (va_up (va_up (va_up b.1 8 0) 9 0) 10 0, b.2.1, b.2.2.1, b.2.2.2) = _
  unfold cK
  refine Prod.ext (funext fun k => ?_) (Prod.ext rfl (Prod.ext (funext fun k => ?_) rfl))
  · show va_up (va_up (va_up b.1 8 0) 9 0) 10 0 k = if k = 8 then nI 0 else if k = 9 then nI 0 else if k = 10 then 0 else b.1 k
    unfold va_up
    by_cases h8 : k = 8
    · subst h8; rfl
    by_cases h9 : k = 9
    · subst h9; rfl
    by_cases h10 : k = 10
    · subst h10; rfl
    simp only [if_neg h8, if_neg h9, if_neg h10]
  · show b.2.2.1 k = if k = 19 then ca b 19 else b.2.2.1 k
    by_cases h : k = 19
    · subst h; rfl
    · rw [if_neg h]
theorem mK_start {m : MS} {f : Nat} : miU (miU (maU (miU (miU m 5 0) 6 (-1)) 31 f 0) 7 0) 8 0 = mK m 0 (-1) 0 0 (upd (ma m 31) f 0, ma m 32, ma m 33, ma m 34, ma m 35) := by
  show (va_up (va_up (va_up (va_up m.1 5 0) 6 (-1)) 7 0) 8 0, m.2.1, va_up m.2.2.1 31 (upd (m.2.2.1 31) f 0), m.2.2.2) = _
  unfold mK
  refine Prod.ext (funext fun k => ?_) (Prod.ext rfl (Prod.ext (funext fun k => ?_) rfl))
  · show va_up (va_up (va_up (va_up m.1 5 0) 6 (-1)) 7 0) 8 0 k = if k = 5 then nI 0 else if k = 6 then -1 else if k = 7 then nI 0 else if k = 8 then nI 0 else m.1 k
    unfold va_up
    by_cases h5 : k = 5
    · subst h5; rfl
    by_cases h6 : k = 6
    · subst h6; rfl
    by_cases h7 : k = 7
    · subst h7; rfl
    by_cases h8 : k = 8
    · subst h8; rfl
    simp only [if_neg h5, if_neg h6, if_neg h7, if_neg h8]
  · show va_up m.2.2.1 31 (upd (m.2.2.1 31) f 0) k = if k = 31 then upd (ma m 31) f 0 else if k = 32 then ma m 32 else if k = 33 then ma m 33 else if k = 34 then ma m 34 else if k = 35 then ma m 35 else m.2.2.1 k
    unfold va_up
    by_cases h1 : k = 31
    · subst h1; rfl
    by_cases h2 : k = 32
    · subst h2; rfl
    by_cases h3 : k = 33
    · subst h3; rfl
    by_cases h4 : k = 34
    · subst h4; rfl
    by_cases h5 : k = 35
    · subst h5; rfl
    simp only [if_neg h1, if_neg h2, if_neg h3, if_neg h4, if_neg h5]
theorem fit_RR {b : CS} {m : MS} (h : RR b m) {f : Nat} (hf : f ≤ 30) (h3 : mi m 3 = nI f) {p z p' c o : Nat} {w e : Int32} {S : Nat → Int32} {X : RW} (hX : Frm m f X) : RR (cK b p z w S) (mK m p' e c o X) := by
  obtain ⟨h1, h2, ⟨n, hn, i1, i2, i3⟩, h4, h5, h6, h7, h8, h9, h10, h11⟩ := h
  obtain rfl : f = n := nI_inj (by omega) (by omega) (h3.symm.trans i2)
  refine ⟨h1, h2, ⟨f, hn, i1, i2, fun g hg => ?_⟩, h4, h5, h6, h7, h8, h9, h10, h11⟩
  obtain ⟨st, s1, s2, s3, s4, s5⟩ := i3 g hg
  refine ⟨st, s1, s2, s3, (hX.1 g (by omega)).trans s4, fun i q hq => ?_⟩
  have hi : i < st.length := by
    rcases Nat.lt_or_ge i st.length with y | y
    · exact y
    · rw [List.getElem?_eq_none y] at hq; cases hq
  obtain ⟨t1, t2, t3, t4, t5, t6, t7⟩ := s5 i q hq
  obtain ⟨x1, x2, x3⟩ := hX.2 (100 * g + i) (by omega)
  exact ⟨t1, t2, t3, t4, x1.trans t5, x2.trans t6, x3.trans t7⟩
/-- the text copied -/
theorem copy_loop {cs : CS} {L : Nat} (hL : L ≤ 100) (h7 : ci cs 7 = nI L) (hb : ∀ i, i < L → vp_nar .byte (ca cs 15 i) = ca cs 15 i) : ∀ (n i : Nat) (G : Nat → Int32), i ≤ L → L + 1 ≤ i + n → (∀ j, j < i → G j = ca cs 15 j) → ∃ G', (∀ j, j < L → G' j = ca cs 15 j) ∧ f_X3_read_32 n (caS cs 18 G) (nI i) = (f_X3_rA (cK (caS cs 18 G') 0 0 0 (ca cs 19)) 0).bind fun cs2 => b2 (f_X3_nextByte cs2 ) fun r4 cs3 => if r4 = (-1 : Int32) then (if (ci cs3 10) = 0 then (some ((-1 : Int32), cs3)) else (some ((ci cs3 8), cs3))) else (if (ci (ciU cs3 10 (1 : Int32)) 10) = 0 then (some ((-1 : Int32), (ciU cs3 10 (1 : Int32)))) else (some ((ci (ciU cs3 10 (1 : Int32)) 8), (ciU cs3 10 (1 : Int32))))) := by
  intro n
  induction n with
  | zero => intro i G h1 h2; omega
  | succ n ih =>
    intro i G h1 h2 hG
    have h7' : ci (caS cs 18 G) 7 = nI L := h7
    rw [f_X3_read_32, h7']
    by_cases q : i = L
    · subst q
      rw [if_pos (nI_le (Nat.le_refl _) (by omega)), cK_start]
      exact ⟨G, hG, rfl⟩
    · rw [if_neg (nI_ge (by omega) (by omega)), ldI_n (by omega) (by omega), some_bind, ixr_n (by omega) (by omega), nI_clamp (by omega), show ca (caS cs 18 G) 15 i = ca cs 15 i from rfl, hb i (by omega), caS_caU, nI_1]
      refine ih (i + 1) _ (by omega) (by omega) (fun j hj => ?_)
      by_cases y : j = i
      · rw [y, upd_eq]
      · rw [upd_ne y]; exact hG j (by omega)
/-- the steps kept -/
theorem keep_loop {cs : CS} {f z : Nat} (hf : f < 30) (hz : z ≤ 100) (h5 : ci cs 5 = nI f) (h9 : ci cs 9 = nI z) : ∀ (n i : Nat) (G : Nat → Int32), i ≤ z → z + 1 ≤ i + n → ∃ G', (∀ j, i ≤ j → j < z → G' (100 * f + j) = ca cs 19 j) ∧ (∀ y, (∀ j, i ≤ j → j < z → y ≠ 100 * f + j) → G' y = G y) ∧ f_X4_keep_2 n (caS cs 16 G) (nI i) = some (ciU (caU (caS cs 16 G') 17 f (nI z)) 5 (nI (f + 1))) := by
  intro n
  induction n with
  | zero => intro i G h1 h2; omega
  | succ n ih =>
    intro i G h1 h2
    have h5' : ci (caS cs 16 G) 5 = nI f := h5
    have h9' : ci (caS cs 16 G) 9 = nI z := h9
    rw [f_X4_keep_2]
    unfold f_X3_size
    rw [some_bind, some_bind, h9', h5']
    by_cases q : i = z
    · subst q
      have e5 : ci (caU (caS cs 16 G) 17 f (nI i)) 5 = nI f := h5
      rw [if_pos (nI_le (Nat.le_refl _) (by omega)), if_neg (show ¬ nI f < 0 from nI_pos (by omega)), if_neg (show ¬ (30 : Int32) ≤ nI f from nI_ge (b := 30) hf (by omega)), ixr_n hf (by omega), nI_clamp (by omega), e5, nI_1]
      exact ⟨G, fun j a b => by omega, fun y _ => rfl, rfl⟩
    · have hpl : f_X4_stepPlace (caS cs 16 G) (nI f) (nI i) = some (nI (100 * f + i)) := by
        unfold f_X4_stepPlace
        rw [show nI f * (100 : Int32) + nI i = nI (100 * f + i) by rw [show (100 : Int32) = nI 100 from rfl, nI_mul, nI_add, Nat.mul_comm], if_neg (nI_pos (by omega)), if_neg (nI_pos (by omega)), if_neg (nI_pos (by omega)), if_neg (show ¬ (3000 : Int32) ≤ nI (100 * f + i) from nI_ge (b := 3000) (by omega) (by omega))]
      have hst : f_X3_stepAt (caS cs 16 G) (nI i) = some (ca cs 19 i) := by
        unfold f_X3_stepAt
        rw [if_neg (nI_pos (by omega)), h9', if_neg (nI_ge (by omega) (by omega)), if_neg (show ¬ (100 : Int32) ≤ nI i from nI_ge (b := 100) (by omega) (by omega)), ldI_n (by omega) (by omega), some_bind]
        rfl
      rw [if_neg (nI_ge (by omega) (by omega)), hpl, some_bind, if_neg (nI_ne_neg (by omega)), hst, some_bind, ixr_n (by omega) (by omega), nI_clamp (by omega), caS_caU, nI_1]
      obtain ⟨G', a1, a2, a3⟩ := ih (i + 1) (upd G (100 * f + i) (ca cs 19 i)) (by omega) (by omega)
      refine ⟨G', fun j b1 b2 => ?_, fun y hy => ?_, a3⟩
      · by_cases e : j = i
        · rw [e, a2 _ (fun j' c d => by omega), upd_eq]
        · exact a1 j (by omega) b2
      · rw [a2 y (fun j c d => hy j (by omega) d), upd_ne (hy i (Nat.le_refl _) (by omega))]
theorem RMd_fit {cs : CS} {ms : MS} (h : RMd cs ms) {f : Nat} (hf : f ≤ 30) (h3 : mi ms 3 = nI f) : RMd cs (miU ms 3 (nI (f + 1))) := by
  intro m hm
  obtain ⟨n, hn, e1, e2, e3⟩ := h m hm
  refine ⟨n, hn, e1, e2, fun p hp => ?_⟩
  obtain ⟨⟨a0, a1, a2, a3, a4, a5, a6, a7⟩, hF⟩ := e3 p hp
  refine ⟨⟨a0, a1, a2, a3, a4, a5, a6, ?_⟩, hF⟩
  rcases a7 with a7 | ⟨k, k1, k2, k3⟩
  · exact Or.inl a7
  · refine Or.inr ⟨k, k1, k2, ?_⟩
    rw [h3] at k3
    have := (nI_lt_iff (by omega) (by omega)).mp k3
    exact nI_lt (by omega) (by omega)
theorem fit_kept {b : CS} {m : MS} (h : RR b m) {f : Nat} (hf : f < 30) (h3 : mi m 3 = nI f) {q z c o : Nat} {S : Nat → Int32} {X : RW} {u : List (Nat × Nat × Nat)} {W : List Nat} (hz : z = u.length) (hu : u.length ≤ 100) (hS : StC S u) (hV : Vld u) (hD : Dep 0 u) (hE : Em m f X u W) {e : Int32} {p' : Nat} : ∃ cs', f_X4_keep (cK b q z 0 S) = some cs' ∧ ci cs' 5 - 1 = nI f ∧ RR cs' (miU (mK m p' e c o X) 3 (nI (f + 1))) := by
  have h0 := fit_RR h (by omega) h3 (p := q) (z := z) (w := 0) (S := S) (p' := p') (e := e) (c := c) (o := o) (Em_Frm hE)
  have h5 : ci (cK b q z 0 S) 5 = nI f := by
    obtain ⟨-, -, ⟨n, hn, i1, i2, -⟩, -⟩ := id h
    obtain rfl : f = n := nI_inj (by omega) (by omega) (h3.symm.trans i2)
    exact i1
  obtain ⟨G', g1, g2, g3⟩ := keep_loop hf (show z ≤ 100 by omega) h5 (show ci (cK b q z 0 S) 9 = nI z from rfl) 1000 0 (ca (cK b q z 0 S) 16) (by omega) (by omega)
  rw [caS_id] at g3
  refine ⟨_, g3, ?_, ?_⟩
  · show nI (f + 1) - 1 = nI f
    exact sub1
  · obtain ⟨h1, h2, ⟨n, hn, i1, i2, i3⟩, h4, h5', h6, h7, h8, h9, h10, h11⟩ := h0
    have i2' : mi m 3 = nI n := i2
    obtain rfl : f = n := nI_inj (by omega) (by omega) (h3.symm.trans i2')
    refine ⟨h1, h2, ⟨f + 1, by omega, rfl, rfl, fun g hg => ?_⟩, RMd_fit h4 (by omega) i2, h5', h6, h7, h8, h9, h10, h11⟩
    by_cases y : g = f
    · subst y
      have d0 := hD []
      rw [List.append_nil] at d0
      refine ⟨u, hu, d0, ?_, hE.1, fun i t ht => ?_⟩
      · show upd (ca b 17) g (nI z) g = nI u.length
        rw [upd_eq, hz]
      · have hi : i < u.length := by
          rcases Nat.lt_or_ge i u.length with w | w
          · exact w
          · rw [List.getElem?_eq_none w] at ht; cases ht
        obtain ⟨v1, v2, v3⟩ := hV t (List.mem_of_getElem? ht)
        obtain ⟨w1, w2, w3⟩ := hE.2.1 i t ht
        exact ⟨v1, v2, v3, (g1 i (by omega) (by omega)).trans (hS i t ht), w1, w2, w3⟩
    · obtain ⟨st, s1, s2, s3, s4, s5⟩ := i3 g (by omega)
      refine ⟨st, s1, s2, ?_, s4, fun i t ht => ?_⟩
      · show upd (ca b 17) f (nI z) g = _
        rw [upd_ne y]; exact s3
      · have hi : i < st.length := by
          rcases Nat.lt_or_ge i st.length with w | w
          · exact w
          · rw [List.getElem?_eq_none w] at ht; cases ht
        obtain ⟨t1, t2, t3, t4, t5, t6, t7⟩ := s5 i t ht
        exact ⟨t1, t2, t3, (g2 (100 * g + i) (fun j _ hj => by omega)).trans t4, t5, t6, t7⟩
theorem P_fit : H_fit RR := by
  rintro cs ms v1 hR
  have hX1 : RR cs (miU ms 0 1) := hR
  obtain ⟨h1, ⟨n, hn, i1, i2, i3⟩, h3, h4, h5, h6, h7, h8, h9, h10, h11⟩ := id hR
  obtain ⟨f, hf, j1, j2, -⟩ := id h3
  have i2' : mi (miU ms 0 0) 2 = nI n := i2
  unfold f_X8_fit f_X9_fit f_X9_fit_22 f_X9_fit_23 f_X4_fed
  rw [i1, i2']
  by_cases q1 : v1 < 0
  · rw [if_pos q1, if_pos q1, may_0 (t := 0) (by decide), b2_some, if_pos rfl]
    exact ⟨_, _, rfl, _, _, rfl, agr_r rfl (by simp) hX1⟩
  obtain ⟨L, hL, rfl⟩ := nI_of q1
  rw [if_neg q1, if_neg q1, some_bind]
  rcases Nat.lt_or_ge n L with q2 | q2
  · rw [if_pos (nI_lt (by omega) hL), if_neg (nI_ge (by omega) hL), may_0 (t := 0) (by decide), b2_some, if_pos rfl]
    exact ⟨_, _, rfl, _, _, rfl, agr_r rfl (by simp) hX1⟩
  have hL100 : L ≤ 100 := by omega
  have j2' : mi (miU (miU (miU (miU (miU ms 0 0) 2 0) 4 (nI L)) 5 0) 6 (-1)) 3 = nI f := j2
  rw [if_neg (nI_nlt q2 (by omega)), if_pos (nI_le q2 (by omega)), may_1, b2_some, if_neg one_ne, j2', ixr_n (by omega) (by omega), nI_clamp (by omega), mK_start]
  obtain ⟨G', g1, g2⟩ := copy_loop (cs := ciU (ciU cs 6 0) 7 (nI L)) hL100 rfl (fun i hi => (i3 i (by omega)).choose_spec.2.2.2) 1000 0 (ca cs 18) (by omega) (by omega) (fun j hj => by omega)
  have eid : caS (ciU (ciU cs 6 0) 7 (nI L)) 18 (ca cs 18) = ciU (ciU cs 6 0) 7 (nI L) := caS_id (s := ciU (ciU cs 6 0) 7 (nI L)) (k := 18)
  rw [eid] at g2
  have hT : Tap (caS (ciU (ciU cs 6 0) 7 (nI L)) 18 G') (miU (miU (miU ms 0 0) 2 0) 4 (nI L)) (fun i => (ma ms 30 i).toNatClampNeg) L f := by
    refine ⟨hL100, hf, rfl, rfl, j2, fun i hi => ?_⟩
    obtain ⟨x, x1, x2, x3, x4⟩ := i3 i (by omega)
    have ex : (ma ms 30 i).toNatClampNeg = x := by rw [x2]; exact nI_clamp (by omega)
    show (ma ms 30 i).toNatClampNeg < 256 ∧ G' i &&& 255 = nI (ma ms 30 i).toNatClampNeg ∧ ma ms 30 i = nI (ma ms 30 i).toNatClampNeg
    rw [ex]
    exact ⟨x1, by rw [g1 i hi]; exact x3, x2⟩
  have hRR : RR (caS (ciU (ciU cs 6 0) 7 (nI L)) 18 G') (miU (miU (miU ms 0 0) 2 0) 4 (nI L)) := ⟨h1, ⟨0, by omega, rfl, rfl, fun i hi => absurd hi (by omega)⟩, h3, h4, h5, h6, h7, h8, h9, h10, h11⟩
  have h3m : mi (miU (miU (miU ms 0 0) 2 0) 4 (nI L)) 3 = nI f := j2
  have h5c : ∀ (p z : Nat) (w : Int32) (S : Nat → Int32), ci (cK (caS (ciU (ciU cs 6 0) 7 (nI L)) 18 G') p z w S) 5 = nI f := fun _ _ _ _ => j1
  have hm0 : ∀ (p : Nat) (e : Int32) (c o : Nat) (X : RW), mi (mK (miU (miU (miU ms 0 0) 2 0) 4 (nI L)) p e c o X) 0 = 0 := fun _ _ _ _ _ => rfl
  have hE0 : Em (miU (miU (miU ms 0 0) 2 0) 4 (nI L)) f (upd (ma (miU (miU (miU ms 0 0) 2 0) 4 (nI L)) 31) f 0, ma (miU (miU (miU ms 0 0) 2 0) 4 (nI L)) 32, ma (miU (miU (miU ms 0 0) 2 0) 4 (nI L)) 33, ma (miU (miU (miU ms 0 0) 2 0) 4 (nI L)) 34, ma (miU (miU (miU ms 0 0) 2 0) 4 (nI L)) 35) [] [] := by
    refine ⟨upd_eq, fun j q hq => by simp at hq, fun j x hx => by simp at hx, fun j hj => upd_ne hj, fun z hz => ⟨rfl, rfl, rfl⟩⟩
  have out := any_n hT (opn := 0) (by omega) (unit_all hT 25 0 (by omega) (by omega)) 0 0 (ca (ciU (ciU cs 6 0) 7 (nI L)) 19) _ [] [] [] 1000 0 (by omega) (fun j q hq => by simp at hq) rfl (by omega) hE0 (Or.inl rfl) (by simp) (by omega) (by omega)
  have eread : f_X3_read (ciU cs 6 0) (nI L) = f_X3_read_32 1000 (ciU (ciU cs 6 0) 7 (nI L)) 0 := by
    unfold f_X3_read
    rw [if_neg (show ¬ (100 : Int32) < 100 by decide), if_neg q1, if_neg (show ¬ (100 : Int32) < nI L from nI_nlt (b := L) (a := 100) hL100 (by omega))]
  unfold f_X4_readTape
  generalize caS (ciU (ciU cs 6 0) 7 (nI L)) 18 G' = b at *
  generalize miU (miU (miU ms 0 0) 2 0) 4 (nI L) = m at *
  rw [eread, show f_X3_read_32 1000 (ciU (ciU cs 6 0) 7 (nI L)) 0 = _ from g2]
  unfold f_X3_rA
  rcases out with ⟨p1, qq, u, v, a, c, S1, X1, k1, b1, b2', b3, b4, b5, b6, b7, b8, b9, b10, b11, b12, b13⟩ | ⟨e, cs', ms', a1, a2, a3, a4, p, ee, c, o, X, a5, a6⟩
  · have hp1q := b2'.1
    have hqL := b2'.2.1
    rw [show f_X3_readAny (ru 25) (cK b 0 0 0 (ca (ciU (ciU cs 6 0) 7 (nI L)) 19)) 0 = _ from b5, some_bind, c_next hT (Sk_self b2'), b2_some]
    obtain ⟨k2, rfl⟩ : ∃ k2, k1 = k2 + 1 := ⟨k1 - 1, by omega⟩
    have hvl : v.length + (sA a).length + (sO c).length = u.length := by rw [b12, List.length_append, List.length_append]
    have hv0 : ([] ++ v : List (Nat × Nat × Nat)).length = v.length := by simp
    obtain ⟨X2, r1, r2⟩ := rd_end hT (k := k2) (o := 0) b2' b3 b4 (Or.inr rfl) b13 (Or.inl rfl) (by simp) (by rw [hv0]; omega)
    have r2' : Em m f X2 u [] := by
      have : ([] ++ v ++ sA a ++ sO c : List (Nat × Nat × Nat)) = u := b12.symm
      rw [this] at r2; exact r2
    have eref := b11.trans r1
    by_cases hq : qq < L
    · obtain ⟨k3, rfl⟩ : ∃ k3, k2 = k3 + 1 := ⟨k2 - 1, by omega⟩
      rw [if_pos (Or.inl hq), rd_err (by omega)] at eref
      have hb : bC (fun i => (ma ms 30 i).toNatClampNeg) L qq ≠ -1 := by
        unfold bC
        rw [if_pos hq]
        have := (hT.2.2.2.2.2 qq hq).1
        exact nI_ne_neg (by omega)
      refine ⟨_, _, eref, .inl (-2 - nI qq), cK b qq (0 + u.length) 1 S1, ?_, agr_l (hm0 _ _ _ _ _) (fit_RR hRR hf h3m (Em_Frm r2'))⟩
      rw [if_neg hb, cK_10, show ci (cK b qq (0 + u.length) 1 S1) 10 = 1 from rfl, if_neg one_ne, b2_some, show ci (cK b qq (0 + u.length) 1 S1) 8 = nI qq from rfl, if_neg (nI_ne_neg (by omega)), b2_some]
    · obtain ⟨k3, rfl⟩ : ∃ k3, k2 = k3 + 1 := ⟨k2 - 1, by omega⟩
      have hb : bC (fun i => (ma ms 30 i).toNatClampNeg) L qq = -1 := if_neg hq
      rw [if_neg (by simp; omega)] at eref
      rw [hb, if_pos rfl, show ci (cK b qq (0 + u.length) 0 S1) 10 = 0 from rfl, if_pos rfl, b2_some, if_pos rfl, h5c]
      have e76 : f_X9_fit_76 (k3 + 1) (mK m qq (-1) ([] : List Nat).length 0 X2) 0 0 = if nI f = (30 : Int32) then (some ((-1 : Int32), mK m qq (-1) 0 0 X2)) else (some (((mi (miU (mK m qq (-1) 0 0 X2) 3 (nI f + (1 : Int32))) 3) - (1 : Int32)), (miU (mK m qq (-1) 0 0 X2) 3 (nI f + (1 : Int32))))) := by
        rw [f_X9_fit_76, if_pos rfl]
        unfold f_X9_fit_333
        rw [show ([] : List Nat).length = 0 from rfl, fine_1, some_bind, if_neg one_ne, show mi (mK m qq (-1) 0 0 X2) 3 = nI f from h3m]
      rw [e76] at eref
      by_cases hf30 : f = 30
      · rw [if_pos (show nI f = (30 : Int32) by rw [hf30]; rfl)] at eref
        rw [if_neg (show ¬ nI f < (30 : Int32) by rw [hf30]; decide), b2_some]
        exact ⟨_, _, eref, _, _, rfl, agr_l (hm0 _ _ _ _ _) (fit_RR hRR hf h3m (Em_Frm r2'))⟩
      · rw [if_neg (show ¬ nI f = (30 : Int32) from fun y => hf30 (nI_inj (b := 30) (by omega) (by omega) y)), nI_1] at eref
        rw [if_pos (show nI f < (30 : Int32) from nI_lt (b := 30) (by omega) (by omega))]
        obtain ⟨cs2, x1, x2, x3⟩ := fit_kept hRR (show f < 30 by omega) h3m (q := qq) (z := 0 + u.length) (c := 0) (o := 0) (p' := qq) (e := -1) (u := u) (by omega) (by omega) (show StC S1 u from b6) b8 b9 r2'
        rw [x1, some_bind, x2, b2_some]
        have e5 : mi (miU (mK m qq (-1) 0 0 X2) 3 (nI (f + 1))) 3 - 1 = nI f := sub1
        rw [e5] at eref
        exact ⟨_, _, eref, _, _, rfl, agr_l (show mi (miU (mK m qq (-1) 0 0 X2) 3 (nI (f + 1))) 0 = 0 from hm0 qq (-1) 0 0 X2) x3⟩
  · rw [show f_X3_readAny (ru 25) (cK b 0 0 0 (ca (ciU (ciU cs 6 0) 7 (nI L)) 19)) 0 = _ from a2, some_bind]
    have hfin : ∃ z S, (b2 (f_X3_nextByte cs' ) fun r4 cs3 => if r4 = (-1 : Int32) then (if (ci cs3 10) = 0 then (some ((-1 : Int32), cs3)) else (some ((ci cs3 8), cs3))) else (if (ci (ciU cs3 10 (1 : Int32)) 10) = 0 then (some ((-1 : Int32), (ciU cs3 10 (1 : Int32)))) else (some ((ci (ciU cs3 10 (1 : Int32)) 8), (ciU cs3 10 (1 : Int32)))))) = some (nI e, cK b e z 1 S) := by
      rcases a3 with ⟨z, S, hz, rfl⟩ | ⟨z, S, hz, rfl, d1, d2⟩
      · refine ⟨z, S, ?_⟩
        rw [c_next1, b2_some, if_pos rfl, show ci (cK b e z 1 S) 10 = 1 from rfl, if_neg one_ne]
        rfl
      · have hs : Sk (fun i => (ma ms 30 i).toNatClampNeg) L e e := Sk_here (by omega) (fun y => by
          have h1 : 48 ≤ (ma ms 30 e).toNatClampNeg := d2.1
          have h2 : (ma ms 30 e).toNatClampNeg = 32 := y.2
          omega)
        have hb : bC (fun i => (ma ms 30 i).toNatClampNeg) L e ≠ -1 := by
          unfold bC
          rw [if_pos d1]
          have := (hT.2.2.2.2.2 e d1).1
          exact nI_ne_neg (by omega)
        refine ⟨z, S, ?_⟩
        rw [c_next hT hs, b2_some, if_neg hb, cK_10, show ci (cK b e z 1 S) 10 = 1 from rfl, if_neg one_ne]
        rfl
    obtain ⟨z, S, hfin⟩ := hfin
    have hem := a6
    refine ⟨_, _, a4, .inl (-2 - nI e), cK b e z 1 S, ?_, agr_l (by rw [a5]; exact hm0 _ _ _ _ _) (by rw [a5]; exact fit_RR hRR hf h3m a6)⟩
    rw [hfin, b2_some, if_neg (nI_ne_neg (by omega)), b2_some]

/-! ===== find ===== -/
theorem va_up_comm {α : Type} {f : Nat → α} {j k : Nat} {x y : α} (h : j ≠ k) : va_up (va_up f j x) k y = va_up (va_up f k y) j x := by
  funext i
  unfold va_up
  by_cases q : i = k
  · rw [if_pos q, if_neg (by omega), if_pos q]
  · rw [if_neg q]
    by_cases q2 : i = j
    · rw [if_pos q2, if_pos q2]
    · rw [if_neg q2, if_neg q2, if_neg q]
def cf3 (s : CS) (A B C : Nat → Int32) : CS := caS (caS (caS s 24 A) 25 B) 26 C
def mf3 (s : MS) (A B C : Nat → Int32) : MS := maS (maS (maS s 68 A) 69 B) 70 C
theorem cf3_24 {s : CS} {A B C : Nat → Int32} {i : Nat} {v : Int32} : caU (cf3 s A B C) 24 i v = cf3 s (upd A i v) B C := by
  show (s.1, s.2.1, va_up (va_up (va_up (va_up s.2.2.1 24 A) 25 B) 26 C) 24 (upd A i v), s.2.2.2) = (s.1, s.2.1, va_up (va_up (va_up s.2.2.1 24 (upd A i v)) 25 B) 26 C, s.2.2.2)
  rw [va_up_comm (show (26 : Nat) ≠ 24 by decide), va_up_comm (show (25 : Nat) ≠ 24 by decide), va_up_up]
theorem cf3_25 {s : CS} {A B C : Nat → Int32} {i : Nat} {v : Int32} : caU (cf3 s A B C) 25 i v = cf3 s A (upd B i v) C := by
  show (s.1, s.2.1, va_up (va_up (va_up (va_up s.2.2.1 24 A) 25 B) 26 C) 25 (upd B i v), s.2.2.2) = (s.1, s.2.1, va_up (va_up (va_up s.2.2.1 24 A) 25 (upd B i v)) 26 C, s.2.2.2)
  rw [va_up_comm (show (26 : Nat) ≠ 25 by decide), va_up_up]
theorem cf3_26 {s : CS} {A B C : Nat → Int32} {i : Nat} {v : Int32} : caU (cf3 s A B C) 26 i v = cf3 s A B (upd C i v) := by
  show (s.1, s.2.1, va_up (va_up (va_up (va_up s.2.2.1 24 A) 25 B) 26 C) 26 (upd C i v), s.2.2.2) = _
  rw [va_up_up]
  rfl
theorem mf3_68 {s : MS} {A B C : Nat → Int32} {i : Nat} {v : Int32} : maU (mf3 s A B C) 68 i v = mf3 s (upd A i v) B C := by
  show (s.1, s.2.1, va_up (va_up (va_up (va_up s.2.2.1 68 A) 69 B) 70 C) 68 (upd A i v), s.2.2.2) = (s.1, s.2.1, va_up (va_up (va_up s.2.2.1 68 (upd A i v)) 69 B) 70 C, s.2.2.2)
  rw [va_up_comm (show (70 : Nat) ≠ 68 by decide), va_up_comm (show (69 : Nat) ≠ 68 by decide), va_up_up]
theorem mf3_69 {s : MS} {A B C : Nat → Int32} {i : Nat} {v : Int32} : maU (mf3 s A B C) 69 i v = mf3 s A (upd B i v) C := by
  show (s.1, s.2.1, va_up (va_up (va_up (va_up s.2.2.1 68 A) 69 B) 70 C) 69 (upd B i v), s.2.2.2) = (s.1, s.2.1, va_up (va_up (va_up s.2.2.1 68 A) 69 (upd B i v)) 70 C, s.2.2.2)
  rw [va_up_comm (show (70 : Nat) ≠ 69 by decide), va_up_up]
theorem mf3_70 {s : MS} {A B C : Nat → Int32} {i : Nat} {v : Int32} : maU (mf3 s A B C) 70 i v = mf3 s A B (upd C i v) := by
  show (s.1, s.2.1, va_up (va_up (va_up (va_up s.2.2.1 68 A) 69 B) 70 C) 70 (upd C i v), s.2.2.2) = _
  rw [va_up_up]
  rfl
theorem caS_id3 {s : CS} : cf3 s (ca s 24) (ca s 25) (ca s 26) = s := by
  show (s.1, s.2.1, va_up (va_up (va_up s.2.2.1 24 (s.2.2.1 24)) 25 (s.2.2.1 25)) 26 (s.2.2.1 26), s.2.2.2) = s
  rw [va_up_id, va_up_id, va_up_id]
theorem maS_id3 {s : MS} : mf3 s (ma s 68) (ma s 69) (ma s 70) = s := by
  show (s.1, s.2.1, va_up (va_up (va_up s.2.2.1 68 (s.2.2.1 68)) 69 (s.2.2.1 69)) 70 (s.2.2.1 70), s.2.2.2) = s
  rw [va_up_id, va_up_id, va_up_id]
/-- the same finding in both -/
def Fnd (A B C A' B' C' : Nat → Int32) (j : Nat) : Prop := A j = A' j ∧ B j = B' j ∧ ((C' j = 0 ∧ C j = 1) ∨ (C' j = 1 ∧ C j = 0))
theorem nar_bool {x : Int32} (h : x = 0 ∨ x = 1) : vp_nar .boolean x = x := by
  rcases h with rfl | rfl <;> rfl
theorem ins_loop {cs : CS} {ms : MS} {k : Nat} (hk : k < 60) (e12 : ci cs 12 = nI k) (e14 : mi ms 14 = nI k) {v1 w w' v3 : Int32} (hw : (w' = 0 ∧ w = 1) ∨ (w' = 1 ∧ w = 0)) : ∀ (n i : Nat) (A B C A' B' C' : Nat → Int32), i ≤ k → i + 1 ≤ n → (∀ j, j < k + 1 → j ≠ i → Fnd A B C A' B' C' j) → ∃ A1 B1 C1 A1' B1' C1' : Nat → Int32, f_X2_insert_26 n (cf3 cs A B C) v1 w v3 (nI i) = some (ciU (cf3 cs A1 B1 C1) 12 (nI (k + 1))) ∧ f_X9_insert_6 n (mf3 ms A' B' C') v1 w' v3 (nI i) = some (miU (mf3 ms A1' B1' C1') 14 (nI (k + 1))) ∧ ∀ j, j < k + 1 → Fnd A1 B1 C1 A1' B1' C1' j := by
  have hw01 : w = 0 ∨ w = 1 := by rcases hw with h | h; exact Or.inr h.2; exact Or.inl h.2
  have hw01' : w' = 0 ∨ w' = 1 := by rcases hw with h | h; exact Or.inl h.1; exact Or.inr h.1
  have wr : ∀ (i : Nat) (A B C : Nat → Int32) (x y z : Int32), i < 60 → (y = 0 ∨ y = 1) → f_X2_write (cf3 cs A B C) (nI i) x y z = some (cf3 cs (upd A i x) (upd B i z) (upd C i y)) := by
    intro i A B C x y z hi hy
    unfold f_X2_write
    rw [if_neg (nI_pos (by omega)), if_neg (show ¬ (60 : Int32) ≤ nI i from nI_ge (b := 60) hi (by omega)), ixr_n hi (by omega), ixr_n hi (by omega), ixr_n hi (by omega), nI_clamp (by omega), nar_bool hy, cf3_24, cf3_26, cf3_25]
  have put9 : ∀ (kk : MS → Int32 → Int32 → Int32 → Int32 → Option (MS)) (i : Nat) (A' B' C' : Nat → Int32), i < 60 → f_X9_insert_107 kk (mf3 ms A' B' C') v1 w' v3 (nI i) = some (miU (mf3 ms (upd A' i v1) (upd B' i v3) (upd C' i w')) 14 (nI (k + 1))) := by
    intro kk i A' B' C' hi
    unfold f_X9_insert_107
    rw [ixr_n hi (by omega), ixr_n hi (by omega), ixr_n hi (by omega), nI_clamp (by omega), nar_bool hw01', mf3_68, mf3_69, mf3_70, show mi (mf3 ms (upd A' i v1) (upd B' i v3) (upd C' i w')) 14 = nI k from e14, nI_1]
  have stop : ∀ (i : Nat) (A B C A' B' C' : Nat → Int32), (∀ j, j < k + 1 → j ≠ i → Fnd A B C A' B' C' j) → ∀ j, j < k + 1 → Fnd (upd A i v1) (upd B i v3) (upd C i w) (upd A' i v1) (upd B' i v3) (upd C' i w') j := by
    intro i A B C A' B' C' hF j hj
    by_cases q : j = i
    · subst q
      unfold Fnd
      rw [upd_eq, upd_eq, upd_eq, upd_eq, upd_eq, upd_eq]
      exact ⟨rfl, rfl, hw⟩
    · unfold Fnd
      rw [upd_ne q, upd_ne q, upd_ne q, upd_ne q, upd_ne q, upd_ne q]
      exact hF j hj q
  intro n
  induction n with
  | zero => intro i A B C A' B' C' h1 h2; omega
  | succ n ih =>
    intro i A B C A' B' C' h1 h2 hF
    rw [f_X2_insert_26, f_X9_insert_6]
    have e12' : ∀ A B C, ci (cf3 cs A B C) 12 = nI k := fun _ _ _ => e12
    by_cases q : i = 0
    · subst q
      rw [if_pos (show nI 0 ≤ 0 by decide), if_pos (show nI 0 ≤ 0 by decide), wr 0 _ _ _ _ _ _ (by omega) hw01, some_bind, put9 _ 0 _ _ _ (by omega), e12', nI_1]
      exact ⟨_, _, _, _, _, _, rfl, rfl, stop 0 _ _ _ _ _ _ hF⟩
    obtain ⟨p, rfl⟩ : ∃ p, i = p + 1 := ⟨i - 1, by omega⟩
    have n0 : ¬ nI (p + 1) ≤ 0 := nI_ge (a := 0) (by omega) (by omega)
    have hp60 : p < 60 := by omega
    have hp31 : p < 2 ^ 31 := by omega
    obtain ⟨f1, f2, f3⟩ := hF p (by omega) (by omega)
    have c24 : ∀ A B C, ca (cf3 cs A B C) 24 = A := fun _ _ _ => rfl
    have c25 : ∀ A B C, ca (cf3 cs A B C) 25 = B := fun _ _ _ => rfl
    have c26 : ∀ A B C, ca (cf3 cs A B C) 26 = C := fun _ _ _ => rfl
    have d68 : ∀ A B C, ma (mf3 ms A B C) 68 = A := fun _ _ _ => rfl
    have d69 : ∀ A B C, ma (mf3 ms A B C) 69 = B := fun _ _ _ => rfl
    have d70 : ∀ A B C, ma (mf3 ms A B C) 70 = C := fun _ _ _ => rfl
    have hC01 : C p = 0 ∨ C p = 1 := by rcases f3 with h | h; exact Or.inr h.2; exact Or.inl h.2
    have hC01' : C' p = 0 ∨ C' p = 1 := by rcases f3 with h | h; exact Or.inl h.1; exact Or.inr h.1
    have shift : ∃ A1 B1 C1 A1' B1' C1' : Nat → Int32, f_X2_insert_26 n (cf3 cs (upd A (p + 1) (A p)) (upd B (p + 1) (B p)) (upd C (p + 1) (C p))) v1 w v3 (nI (p + 1) + -1) = some (ciU (cf3 cs A1 B1 C1) 12 (nI (k + 1))) ∧ f_X9_insert_53 (f_X9_insert_6 n) (mf3 ms A' B' C') v1 w' v3 (nI (p + 1)) = some (miU (mf3 ms A1' B1' C1') 14 (nI (k + 1))) ∧ ∀ j, j < k + 1 → Fnd A1 B1 C1 A1' B1' C1' j := by
      unfold f_X9_insert_53
      simp only [nI_sub1 (show 1 ≤ p + 1 by omega), Nat.add_sub_cancel, d68, d69, d70, ldI_n hp60 hp31, some_bind, ixr_n (show p + 1 < 60 by omega) (show p + 1 < 2 ^ 31 by omega), nI_clamp (show p + 1 < 2 ^ 31 by omega), mf3_68, mf3_69, mf3_70, nar_bool hC01', m1_sub]
      refine ih p _ _ _ _ _ _ (by omega) (by omega) (fun j hj hjp => ?_)
      by_cases z : j = p + 1
      · subst z
        unfold Fnd
        rw [upd_eq, upd_eq, upd_eq, upd_eq, upd_eq, upd_eq]
        exact ⟨f1, f2, f3⟩
      · unfold Fnd
        rw [upd_ne z, upd_ne z, upd_ne z, upd_ne z, upd_ne z, upd_ne z]
        exact hF j hj z
    have halt : ∃ A1 B1 C1 A1' B1' C1' : Nat → Int32, ((f_X2_write (cf3 cs A B C) (nI (p + 1)) v1 w v3).bind fun cs6 => some (ciU cs6 12 ((ci cs6 12) + (1 : Int32)))) = some (ciU (cf3 cs A1 B1 C1) 12 (nI (k + 1))) ∧ f_X9_insert_107 (f_X9_insert_6 n) (mf3 ms A' B' C') v1 w' v3 (nI (p + 1)) = some (miU (mf3 ms A1' B1' C1') 14 (nI (k + 1))) ∧ ∀ j, j < k + 1 → Fnd A1 B1 C1 A1' B1' C1' j := by
      rw [wr (p + 1) _ _ _ _ _ _ (by omega) hw01, some_bind, put9 _ (p + 1) _ _ _ (by omega), e12', nI_1]
      exact ⟨_, _, _, _, _, _, rfl, rfl, stop (p + 1) _ _ _ _ _ _ hF⟩
    rw [if_neg n0, if_neg n0]
    unfold f_X2_goesAhead f_X9_insert_27
    have hsub : nI (p + 1) - 1 = nI p := by rw [nI_sub1 (by omega)]; rfl
    simp only [hsub, c24, c25, c26, d69, d70, ldI_n hp60 hp31, some_bind, if_neg (nI_pos hp31), if_pos (show nI p < (60 : Int32) from nI_lt (b := 60) hp60 (by omega)), gd_t hw01, wr (p + 1) A B C _ _ _ (by omega) hC01]
    rcases f3 with ⟨g1, g2⟩ | ⟨g1, g2⟩
    · rcases hw with ⟨rfl, rfl⟩ | ⟨rfl, rfl⟩
      · simp only [g1, g2, f2, if_pos (show (0 : Int32) = 0 from rfl), if_pos (show (1 : Int32) = 1 from rfl), if_neg (show ¬ (1 : Int32) = 0 from one_ne), if_neg (show ¬ (0 : Int32) = 1 by decide), some_bind]
        by_cases z : B' p ≤ v3
        · simp only [if_pos z, some_bind, if_pos (show (0 : Int32) = 0 from rfl)]; exact halt
        · simp only [if_neg z, some_bind, if_neg (show ¬ (1 : Int32) = 0 from one_ne)]
          simp only [g2, f2] at shift
          exact shift
      · simp only [g1, g2, f2, if_pos (show (0 : Int32) = 0 from rfl), if_pos (show (1 : Int32) = 1 from rfl), if_neg (show ¬ (1 : Int32) = 0 from one_ne), if_neg (show ¬ (0 : Int32) = 1 by decide), some_bind]
        exact halt
    · rcases hw with ⟨rfl, rfl⟩ | ⟨rfl, rfl⟩
      · simp only [g1, g2, f2, if_pos (show (0 : Int32) = 0 from rfl), if_pos (show (1 : Int32) = 1 from rfl), if_neg (show ¬ (1 : Int32) = 0 from one_ne), if_neg (show ¬ (0 : Int32) = 1 by decide), some_bind]
        simp only [g2, f2] at shift
        exact shift
      · simp only [g1, g2, f2, if_pos (show (0 : Int32) = 0 from rfl), if_pos (show (1 : Int32) = 1 from rfl), if_neg (show ¬ (1 : Int32) = 0 from one_ne), if_neg (show ¬ (0 : Int32) = 1 by decide), some_bind]
        by_cases z : B' p ≤ v3
        · simp only [if_pos z, some_bind, if_pos (show (0 : Int32) = 0 from rfl)]; exact halt
        · simp only [if_neg z, some_bind, if_neg (show ¬ (1 : Int32) = 0 from one_ne)]
          simp only [g2, f2] at shift
          exact shift
/-- all but the findings, and the first k findings alike -/
def RRx (cs : CS) (ms : MS) (k : Nat) : Prop := (RSh cs ms ∧ RTp cs ms ∧ RFt cs ms ∧ RMd cs ms ∧ RCr cs ms ∧ RIt cs ms ∧ RWt cs ms ∧ RAc cs ms ∧ RDy cs ms ∧ RTl cs ms) ∧ ci cs 12 = nI k ∧ mi ms 14 = nI k ∧ ∀ j, j < k → Fnd (ca cs 24) (ca cs 25) (ca cs 26) (ma ms 68) (ma ms 69) (ma ms 70) j
theorem RRx_RR {cs : CS} {ms : MS} {k : Nat} (hk : k ≤ 60) (h : RRx cs ms k) : RR cs ms := by
  obtain ⟨⟨h1, h2, h3, h4, h5, h6, h7, h8, h10, h11⟩, e1, e2, e3⟩ := h
  exact ⟨h1, h2, h3, h4, h5, h6, h7, h8, ⟨k, hk, e1, e2, fun j hj => (e3 j hj).1⟩, h10, h11⟩
theorem ins_n {cs : CS} {ms : MS} {k : Nat} (hk : k < 60) (h : RRx cs ms k) {v1 w w' v3 : Int32} (hw : (w' = 0 ∧ w = 1) ∨ (w' = 1 ∧ w = 0)) : ∃ cs' ms', f_X2_insert cs v1 w v3 = some cs' ∧ f_X9_insert ms v1 w' v3 = some ms' ∧ RRx cs' ms' (k + 1) ∧ mi ms' 0 = mi ms 0 ∧ mi ms' 12 = mi ms 12 ∧ ma ms' 65 = ma ms 65 := by
  obtain ⟨⟨h1, h2, h3, h4, h5, h6, h7, h8, h10, h11⟩, e1, e2, e3⟩ := h
  obtain ⟨A1, B1, C1, A1', B1', C1', a1, a2, a3⟩ := ins_loop (v1 := v1) (v3 := v3) hk e1 e2 hw 1000 k (ca cs 24) (ca cs 25) (ca cs 26) (ma ms 68) (ma ms 69) (ma ms 70) (by omega) (by omega) (fun j hj hjk => e3 j (by omega))
  rw [caS_id3] at a1
  rw [maS_id3] at a2
  unfold f_X2_insert f_X9_insert
  rw [e1, e2, if_neg (show ¬ nI k < 0 from nI_pos (by omega)), if_pos (show nI k < (60 : Int32) from nI_lt (b := 60) hk (by omega)), a1, a2]
  exact ⟨_, _, rfl, rfl, ⟨⟨h1, h2, h3, h4, h5, h6, h7, h8, h10, h11⟩, rfl, rfl, a3⟩, rfl, rfl, rfl⟩
theorem cnt0_mono {f : Nat → Int32} {i : Nat} : ∀ n, i ≤ n → cnt0 f i ≤ cnt0 f n := by
  intro n
  induction n with
  | zero => intro h; have : i = 0 := by omega
            rw [this]; exact Nat.le_refl _
  | succ n ih =>
    intro h
    by_cases q : i = n + 1
    · rw [q]; exact Nat.le_refl _
    · have := ih (by omega)
      rw [cnt0]; omega
theorem find_loop {v1 v2 v3 v4 : Int32} : ∀ (f i k n : Nat) (cs : CS) (ms : MS), RRx cs ms k → mi ms 0 = 0 → mi ms 12 = nI n → n ≤ 400 → i ≤ n → n + 1 ≤ i + f → k ≤ cnt0 (ma ms 65) i → ∃ r cs' ms', f_X8_find_31 f cs v1 v2 v3 v4 (nI i) = some (.inl r, cs') ∧ f_X9_find_38 f ms v1 v2 v3 v4 (nI i) = some (r, ms') ∧ RR cs' ms' ∧ mi ms' 0 = 0 := by
  intro f
  induction f with
  | zero => intro i k n cs ms g1 g2 g3 g4 g5 g6; omega
  | succ f ih =>
    intro i k n cs ms hX h0 e12 hn hin hf hk
    obtain ⟨⟨h1, h2, h3, h4, h5, h6, h7, h8, ⟨d, hd, d1, d2⟩, h11⟩, e1, e2, e3⟩ := id hX
    obtain ⟨nn, hnn, i1, i2, -, -, i5, -⟩ := id h6
    obtain rfl : n = nn := nI_inj (by omega) (by omega) (e12.symm.trans i2)
    have hk60 : k ≤ 60 := by have := cnt0_mono (f := ma ms 65) n hin; omega
    rw [f_X8_find_31, f_X9_find_38, i1, i2]
    by_cases q : i = n
    · subst q
      unfold f_X2_size
      rw [if_pos (nI_le (Nat.le_refl _) (by omega)), if_pos (nI_le (Nat.le_refl _) (by omega)), some_bind, e1, e2]
      exact ⟨_, _, _, rfl, rfl, RRx_RR hk60 hX, h0⟩
    have hlt : nI i < mi ms 12 := by rw [i2]; exact nI_lt (by omega) (by omega)
    obtain ⟨a, c, m, p, k', hO⟩ := item_ok h5 h6 (i := i) (by omega) hlt
    obtain ⟨hA, hi, hc, hc9, e63, hm, e46, hk', e37, hp, e64, u1, u2, hpk⟩ := id hO
    obtain ⟨x1, x2, x3, y0, y2, y3, y4, -⟩ := id hA
    obtain ⟨-, f1, -, -, -, -, -, f7, hr⟩ := fact_at h4 hm hk' e37 hp
    obtain ⟨-, -, -, -, -, -, -, hr7⟩ := hr
    have hi31 : i < 2 ^ 31 := by omega
    have hc31 : c < 2 ^ 31 := by omega
    have hz : 24 * m + p < 192 := by omega
    have hz31 : 24 * m + p < 2 ^ 31 := by omega
    have hat : f_X8_itemAt cs (nI i) = some (some a) := by
      unfold f_X8_itemAt
      rw [if_neg (nI_pos (by omega)), i1, if_neg (nI_ge (by omega) (by omega)), if_neg (show ¬ (400 : Int32) ≤ nI i from nI_ge (b := 400) (by omega) (by omega)), ldQ_n (by omega) (by omega), some_bind, x1, ob_some]
    have hcl : a ∈ cl cs ∧ ck cs a = 1 := ⟨x2, x3⟩
    have next : ∀ (cs' : CS) (ms' : MS) (k2 : Nat), RRx cs' ms' k2 → mi ms' 0 = 0 → mi ms' 12 = nI n → k2 ≤ cnt0 (ma ms' 65) (i + 1) → ∃ r cs2 ms2, f_X8_find_31 f cs' v1 v2 v3 v4 (nI i + 1) = some (.inl r, cs2) ∧ f_X9_find_38 f ms' v1 v2 v3 v4 (nI i + 1) = some (r, ms2) ∧ RR cs2 ms2 ∧ mi ms2 0 = 0 := by
      intro cs' ms' k2 w1 w2 w3 w4
      rw [nI_1]
      exact ih (i + 1) k2 n cs' ms' w1 w2 w3 hn (by omega) (by omega) w4
    have hmo : k ≤ cnt0 (ma ms 65) (i + 1) := by rw [cnt0]; omega
    have hskip := next cs ms k hX h0 i2 hmo
    unfold f_X8_standsFor
    rw [if_neg (nI_ge (by omega) (by omega)), if_neg (nI_ge (by omega) (by omega)), hat, some_bind, ob_some, gd_t hcl, y3, ipart hO, some_bind, ldI_n hi hi31, some_bind]
    by_cases q0 : ma ms 65 i = 0
    · have hkk : k + 1 ≤ cnt0 (ma ms 65) (i + 1) := by rw [cnt0, if_pos q0]; omega
      have hk59 : k < 60 := by have := cnt0_mono (f := ma ms 65) n (show i + 1 ≤ n by omega); omega
      rw [if_pos q0, if_pos q0, ifact hO, f1, some_bind, ldI_n hz hz31, some_bind]
      by_cases q1 : ma ms 39 (24 * m + p) = v1
      · simp only [if_pos q1, ob_some, ifact hO, f7, some_bind, ldI_n hi hi31, e63, ldI_n hc hc31, e46, ldI_n hz hz31, gd_t hcl, u1]
        have ins : ∀ (ms' : MS) (w w' : Int32), RRx cs ms' k → mi ms' 0 = 0 → mi ms' 12 = nI n → ma ms' 65 = ma ms 65 → ItOK cs ms' i a c m p k' → ((w' = 0 ∧ w = 1) ∨ (w' = 1 ∧ w = 0)) → ∃ r cs2 ms2, ((f_X8_valueOf cs (some a)).bind fun r17 => (f_X2_insert cs (nI i) w r17).bind fun cs18 => f_X8_find_31 f cs18 v1 v2 v3 v4 (nI i + 1)) = some (.inl r, cs2) ∧ ((f_X9_valueOf ms' (nI i)).bind fun r38 => (f_X9_insert ms' (nI i) w' r38).bind fun ms39 => f_X9_find_38 f ms39 v1 v2 v3 v4 (nI i + 1)) = some (r, ms2) ∧ RR cs2 ms2 ∧ mi ms2 0 = 0 := by
          intro ms' w w' z1 z2 z3 z4 z5 z6
          obtain ⟨⟨-, -, -, b4, b5, b6, -, -, ⟨d', hd', d1', d2'⟩, -⟩, -⟩ := id z1
          obtain ⟨v, v8, v9⟩ := value_eq b4 (d1'.trans d2'.symm) z5
          obtain ⟨cs', ms2, s1, s2, s3, s4, s5, s6⟩ := ins_n (v1 := nI i) (v3 := v) hk59 z1 z6
          rw [v8, some_bind, s1, some_bind, v9, some_bind, s2, some_bind]
          exact next cs' ms2 (k + 1) s3 (s4.trans z2) (s5.trans z3) (by rw [s6, z4]; exact hkk)
        rcases hr7 with r7 | ⟨fi, hfi, r7, r8⟩
        · simp only [r7, if_pos (show (-1 : Int32) = -1 from rfl)]
          by_cases q2 : nI m = v2
          · simp only [if_pos q2, some_bind, if_neg one_ne]
            exact ins ms 1 0 hX h0 i2 rfl hO (Or.inl ⟨rfl, rfl⟩)
          · simp only [if_neg q2, some_bind, if_pos (show (0 : Int32) = 0 from rfl)]
            exact hskip
        · obtain ⟨b, g', s1, s2⟩ := says_n h3 r8 hfi v2 v3 v4
          have hXm : RRx cs (maS ms 36 g') k := hX
          have hOm : ItOK cs (maS ms 36 g') i a c m p k' := hO
          have hgd : bv b = 0 ∨ bv b = 1 := by cases b; exact Or.inl rfl; exact Or.inr rfl
          simp only [r7, if_neg (nI_ne_neg (k := fi) (by omega)), s2, some_bind, gd_t hgd, s1, b2_some]
          by_cases q2 : nI m = v2
          · simp only [if_pos q2]
            cases b with
            | false =>
              simp only [if_pos (show bv false = 0 from rfl)]
              exact next cs (maS ms 36 g') k hXm h0 i2 hmo
            | true =>
              simp only [if_neg (show ¬ bv true = 0 from one_ne)]
              exact ins (maS ms 36 g') 1 0 hXm h0 i2 rfl hOm (Or.inl ⟨rfl, rfl⟩)
          · simp only [if_neg q2]
            cases b with
            | false =>
              simp only [if_pos (show bv false = 0 from rfl)]
              exact next cs (maS ms 36 g') k hXm h0 i2 hmo
            | true =>
              simp only [if_neg (show ¬ bv true = 0 from one_ne)]
              exact ins (maS ms 36 g') 0 1 hXm h0 i2 rfl hOm (Or.inr ⟨rfl, rfl⟩)
      · rw [if_neg q1, if_neg q1]
        exact hskip
    · rw [if_neg q0, if_neg q0]
      exact hskip
theorem P_find : H_find RR := by
  rintro cs ms v1 v2 v3 v4 hR
  have hX1 : RR cs (miU ms 0 1) := hR
  obtain ⟨h1, h2, h3, h4, h5, h6, h7, h8, h9, h10, h11⟩ := hR
  unfold f_X8_find f_X9_find f_X2_clear
  by_cases q1 : v1 < 0
  · rw [if_pos q1, if_pos q1, may_0 (t := 0) (by decide), b2_some, if_pos rfl]
    exact ⟨_, _, rfl, _, _, rfl, agr_r rfl (by simp) hX1⟩
  obtain ⟨w, hw, rfl⟩ := nI_of q1
  rw [if_neg q1, if_neg q1]
  by_cases q2 : w ≤ 99
  · rw [if_neg (show ¬ (99 : Int32) < nI w from nI_nlt (a := 99) q2 (by omega)), if_pos (show nI w ≤ (99 : Int32) from nI_le (b := 99) q2 (by omega)), may_1, b2_some, if_neg one_ne, some_bind]
    obtain ⟨n, hn, i1, i2, -⟩ := id h6
    obtain ⟨r, cs', ms', a1, a2, a3, a4⟩ := find_loop (v1 := nI w) (v2 := v2) (v3 := v3) (v4 := v4) 1000 0 0 n (ciU cs 12 0) (miU (miU ms 0 0) 14 0) ⟨⟨h1, h2, h3, h4, h5, h6, h7, h8, h10, h11⟩, rfl, rfl, fun j hj => absurd hj (by omega)⟩ rfl i2 hn (by omega) (by omega) (by omega)
    exact ⟨_, _, a2, _, _, a1, agr_l a4 a3⟩
  · rw [if_pos (show (99 : Int32) < nI w from nI_lt (a := 99) (by omega) (by omega)), if_neg (show ¬ nI w ≤ (99 : Int32) from nI_ge (a := 99) (by omega) (by omega)), may_0 (t := 0) (by decide), b2_some, if_pos rfl]
    exact ⟨_, _, rfl, _, _, rfl, agr_r rfl (by simp) hX1⟩

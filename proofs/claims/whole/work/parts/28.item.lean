/-! ===== items: their facts, their value; item ===== -/
/-- an item that is there, with its car's number, its model and its part -/
def ItOK (cs : CS) (ms : MS) (i a c m p k' : Nat) : Prop := ItemAt cs ms i a ∧ i < 400 ∧ c < 40 ∧ nI c < mi ms 9 ∧ ma ms 63 i = nI c ∧ m < 8 ∧ ma ms 46 c = nI m ∧ k' ≤ 24 ∧ ma ms 37 m = nI k' ∧ p < k' ∧ ma ms 64 i = nI p ∧ cp cs a 1 = nI m ∧ cp cs a 2 = nI p ∧ nI p < ma ms 49 c
theorem item_ok {cs : CS} {ms : MS} (hC : RCr cs ms) (hI : RIt cs ms) {i : Nat} (hi : i < 400) (h : nI i < mi ms 12) : ∃ a c m p k', ItOK cs ms i a c m p k' := by
  obtain ⟨n, hn, h1, h2, h3, -⟩ := hI
  obtain ⟨n9, hn9, i1, i2, i3, -⟩ := hC
  have hin : i < n := by rw [h2] at h; exact (nI_lt_iff (by omega) (by omega)).mp h
  obtain ⟨⟨-, c, p, hc, e63, hc9, hp, e64, hpk⟩, a, hA⟩ := h3 i hin
  have hcn : c < n9 := by rw [i2] at hc9; exact (nI_lt_iff (by omega) (by omega)).mp hc9
  obtain ⟨⟨-, -, -, m, k, k', o, hm, g1, hk0, hkk, hk', g2, g3, -⟩, -⟩ := i3 c hcn
  have hpk2 : p < k := by rw [g2] at hpk; exact (nI_lt_iff (by omega) (by omega)).mp hpk
  exact ⟨a, c, m, p, k', hA, hi, hc, hc9, e63, hm, g1, hk', g3, by omega, e64, (hA.2.2.2.2.2.2.2.2 c e63 hc).trans g1, hA.2.2.2.2.1.trans e64, hpk⟩
theorem ifact {cs : CS} {ms : MS} {i a c m p k' : Nat} (h : ItOK cs ms i a c m p k') (w : Int32) : f_X8_factOf cs (some a) w = f_X6_factOf cs (nI m) (nI p) w := by
  obtain ⟨⟨-, x2, x3, -⟩, -, -, -, -, -, -, -, -, -, -, e1, e2, -⟩ := h
  unfold f_X8_factOf
  rw [ob_some, gd_t ⟨x2, x3⟩, e1, e2]
  cases f_X6_factOf cs (nI m) (nI p) w <;> rfl
theorem ipart {cs : CS} {ms : MS} {i a c m p k' : Nat} (h : ItOK cs ms i a c m p k') : f_X9_partOf ms (nI i) = some (nI (24 * m + p)) := by
  obtain ⟨-, hi, hc, -, e63, hm, e46, -, -, hp, e64, -⟩ := h
  unfold f_X9_partOf
  rw [ldI_n hi (by omega), some_bind, e63, ldI_n hc (by omega), some_bind, e46, ldI_n hi (by omega), some_bind, e64, l24, nI_mul, nI_add]
theorem value_loop {cs : CS} {ms : MS} {M : Int32} : ∀ (f j : Nat) (v : Int32), j ≤ 24 → 25 ≤ j + f → ∃ r, f_X8_valueOf_48 f cs v (if (24 : Int32) < M then 24 else M) (nI j) = some r ∧ f_X9_valueOf_53 f ms v M (nI j) = some r := by
  intro f
  induction f with
  | zero => intro j v h1 h2; omega
  | succ f ih =>
    intro j v h1 h2
    rw [f_X8_valueOf_48, f_X9_valueOf_53]
    have ej : (nI j).toInt = (j : Int) := nI_toInt (by omega)
    have e24 : (24 : Int32).toInt = 24 := rfl
    by_cases q : (24 : Int32) < M
    · rw [if_pos q]
      have nM : ¬ M ≤ nI j := by
        rw [Int32.le_iff_toInt_le]
        rw [Int32.lt_iff_toInt_lt] at q
        omega
      rw [if_neg nM]
      by_cases q2 : (24 : Int32) ≤ nI j
      · rw [if_pos q2, if_pos q2]; exact ⟨_, rfl, rfl⟩
      · have hj : j < 24 := Nat.lt_of_not_le fun z => q2 (nI_le (a := 24) z (by omega))
        rw [if_neg q2, if_neg q2, nI_1]
        have := ih (j + 1) (v - v / 8) (by omega) (by omega)
        rw [if_pos q] at this
        exact this
    · rw [if_neg q]
      by_cases qM : M ≤ nI j
      · rw [if_pos qM, if_pos qM]; exact ⟨_, rfl, rfl⟩
      · rw [if_neg qM, if_neg qM]
        have hj : j < 24 := by
          rw [Int32.le_iff_toInt_le] at qM
          rw [Int32.lt_iff_toInt_lt] at q
          omega
        rw [if_neg (show ¬ (24 : Int32) ≤ nI j from nI_ge (b := 24) hj (by omega)), nI_1]
        have := ih (j + 1) (v - v / 8) (by omega) (by omega)
        rw [if_neg q] at this
        exact this
theorem value_eq {cs : CS} {ms : MS} (hMd : RMd cs ms) (hd : ci cs 3 = mi ms 10) {i a c m p k' : Nat} (h : ItOK cs ms i a c m p k') : ∃ v, f_X8_valueOf cs (some a) = some v ∧ f_X9_valueOf ms (nI i) = some v := by
  obtain ⟨hA, hi, hc, -, e63, hm, e46, hk', e37, hp, e64, -⟩ := id h
  obtain ⟨-, x2, x3, -, -, -, y4, -⟩ := hA
  obtain ⟨f0, -, -, -, -, -, f6, -⟩ := fact_at hMd hm hk' e37 hp
  have hz : 24 * m + p < 192 := by omega
  unfold f_X8_valueOf f_X9_valueOf f_X8_valueOf_25
  rw [ob_some, ifact h, ifact h, f6, some_bind, f0, some_bind, ipart h, some_bind]
  simp only [ldI_n hz (show 24 * m + p < 2 ^ 31 by omega), ldI_n hi (show i < 2 ^ 31 by omega), some_bind, gd_t (show a ∈ cl cs ∧ ck cs a = 1 from ⟨x2, x3⟩), hd, y4]
  by_cases q : ma ms 38 (24 * m + p) = 2
  · rw [if_pos q, if_pos q]
    exact value_loop 1000 0 _ (by omega) (by omega)
  · rw [if_neg q, if_neg q]
    exact value_loop 1000 0 _ (by omega) (by omega)

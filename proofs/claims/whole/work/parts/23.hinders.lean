/-! ===== what hinders ===== -/
theorem and1_cases (x : Int32) : x &&& 1 = 0 ∨ x &&& 1 = 1 := by
  have h : (x &&& 1).toBitVec = BitVec.setWidth 32 (BitVec.ofBool (x.toBitVec.getLsbD 0)) := by
    show x.toBitVec &&& 1#32 = _
    exact BitVec.and_one_eq_setWidth_ofBool_getLsbD
  cases hb : x.toBitVec.getLsbD 0 with
  | false => left; apply Int32.toBitVec_inj.mp; rw [h, hb]; rfl
  | true => right; apply Int32.toBitVec_inj.mp; rw [h, hb]; rfl
/-- bit p of a car's parts -/
def onb (x p : Int32) : Int32 := if (x >>> (p &&& 31)) &&& 1 = 1 then 1 else 0
theorem onb_zb (x p : Int32) : onb x p = 0 ∨ onb x p = 1 := by
  unfold onb
  by_cases h : (x >>> (p &&& 31)) &&& 1 = 1
  · rw [if_pos h]; exact Or.inr rfl
  · rw [if_neg h]; exact Or.inl rfl
theorem isOn8 {cs : CS} {ms : MS} {c a p k : Nat} (h : CarAt cs ms c a) (hk : ma ms 49 c = nI k) (hk24 : k ≤ 24) (hp : p < k) : f_X1_isOn cs a (nI p) = some (onb (ma ms 50 c) (nI p)) := by
  obtain ⟨-, x2, x3, -, -, -, y3, -, y5, -, -, -⟩ := h
  unfold f_X1_isOn onb
  rw [if_neg (nI_pos (by omega)), gd_t ⟨x2, x3⟩, y3, hk, if_neg (nI_ge (by omega) (by omega)), y5]
  rcases and1_cases (ma ms 50 c >>> (nI p &&& 31)) with q | q
  · rw [if_pos q, if_neg (by rw [q]; decide)]
  · rw [if_neg (by rw [q]; decide), if_pos q]
theorem isOn8_neg {cs : CS} {a : Nat} : f_X1_isOn cs a (-1) = some 0 := if_pos (by decide)
theorem isOn9 {ms : MS} {c : Nat} {p : Int32} (hc : c < 40) : f_X9_isOn ms (nI c) p = some (onb (ma ms 50 c) p) := by
  unfold f_X9_isOn onb
  rw [ldI_n hc (by omega), some_bind]
  by_cases q : (ma ms 50 c >>> (p &&& 31)) &&& 1 = 1
  · rw [if_pos q, if_pos q]
  · rw [if_neg q, if_neg q]
/-- a car with a part, or none -/
theorem part_cases {cs : CS} {ms : MS} {v1 v2 : Int32} (h : RCr cs ms) : (∃ c a p k : Nat, c < 40 ∧ v1 = nI c ∧ nI c < mi ms 9 ∧ CarAt cs ms c a ∧ CRng ms c ∧ ma ms 49 c = nI k ∧ k ≤ 24 ∧ p < k ∧ v2 = nI p ∧ f_X8_carWithPart cs v1 v2 = some (.inl (some a), cs) ∧ f_X9_isPartOf (miU ms 0 0) v1 v2 = some (1, miU ms 0 0)) ∨ (f_X8_carWithPart cs v1 v2 = some (.inr "java/util/NoSuchElementException", cs) ∧ f_X9_isPartOf (miU ms 0 0) v1 v2 = some (0, miU ms 0 1)) := by
  unfold f_X8_carWithPart f_X9_isPartOf
  rcases car_cases (v1 := v1) h with ⟨c, a, hc, rfl, hc9, hA, hG, -, e1, e2⟩ | ⟨e1, e2⟩
  · obtain ⟨-, -, -, m, k, k', o, hm, g1, hk0, hkk, hk', g2, g3, g4⟩ := id hG
    obtain ⟨x1, x2, x3, y0, y1, y2, y3, y4⟩ := id hA
    rw [e1, e2, b2_some, if_neg one_ne, bx_inl, ob_some]
    by_cases q1 : v2 < 0
    · exact Or.inr ⟨if_pos q1, by rw [if_pos q1, may_0 (t := 0) (by decide), b2_some, if_pos rfl]⟩
    obtain ⟨p, hp, rfl⟩ := nI_of q1
    have e49 : ma (miU ms 0 0) 49 c = nI k := g2
    by_cases q2 : k ≤ p
    · refine Or.inr ⟨?_, ?_⟩
      · rw [if_neg q1, gd_t ⟨x2, x3⟩, y3, g2, if_neg (nI_nlt q2 hp)]
      · rw [if_neg q1, ldI_n hc (by omega), some_bind, e49, if_pos (nI_le q2 hp), may_0 (t := 0) (by decide), b2_some, if_pos rfl]
    · refine Or.inl ⟨c, a, p, k, hc, rfl, hc9, hA, hG, g2, by omega, by omega, rfl, ?_, ?_⟩
      · rw [if_neg q1, gd_t ⟨x2, x3⟩, y3, g2, if_pos (nI_lt (by omega) (by omega))]
      · rw [if_neg q1, ldI_n hc (by omega), some_bind, e49, if_neg (nI_ge (by omega) (by omega)), may_1, b2_some, if_neg one_ne]
  · rw [e1, e2, b2_some, if_pos rfl, bx_inr]
    exact Or.inr ⟨rfl, rfl⟩
theorem hind_end {cs : CS} {ms : MS} (h : RIt cs ms) : ∃ r, f_X8_hindranceOf_92 cs = some r ∧ f_X9_hindrance_113 ms = some r := by
  obtain ⟨n, hn, h1, h2, -, -, h5, h6, h7⟩ := h
  unfold f_X8_hindranceOf_92 f_X9_hindrance_113
  rw [h1, h2, h6, h7]
  generalize cnt0 (ma ms 65) n = z at h5
  by_cases q : z < 60
  · have a1 : nI z < (60 : Int32) := nI_lt (b := 60) q (by omega)
    have a2 : ¬ nI z = (60 : Int32) := fun y => by
      have := nI_inj (b := 60) (by omega) (by omega) y
      omega
    rw [if_pos a1, if_neg a2]
    by_cases q2 : n < 400
    · have b1 : nI n < (400 : Int32) := nI_lt (b := 400) q2 (by omega)
      have b2 : ¬ nI n = (400 : Int32) := fun y => by
        have := nI_inj (b := 400) (by omega) (by omega) y
        omega
      rw [if_pos b1, if_neg b2]
      exact ⟨_, rfl, rfl⟩
    · obtain rfl : n = 400 := by omega
      exact ⟨7, rfl, rfl⟩
  · obtain rfl : z = 60 := by omega
    exact ⟨6, rfl, rfl⟩
theorem hind_eq {cs : CS} {ms : MS} (hMd : RMd cs ms) (hIt : RIt cs ms) {c a p k : Nat} (hc : c < 40) (hA : CarAt cs ms c a) (hG : CRng ms c) (hk : ma ms 49 c = nI k) (hk24 : k ≤ 24) (hp : p < k) : ∃ r, f_X8_hindranceOf cs (some a) (nI p) = some r ∧ f_X9_hindrance ms (nI c) (nI p) = some r := by
  obtain ⟨-, -, -, m, k1, k', o, hm, g1, hk0, hkk, hk', g2, g3, g4⟩ := id hG
  obtain rfl : k1 = k := nI_inj (by omega) (by omega) (g2.symm.trans hk)
  obtain ⟨x1, x2, x3, y0, y1, y2, y3, y4, y5, y6, y7, y8⟩ := id hA
  obtain ⟨f0, f1, f2, -, -, -, -, -, hr⟩ := fact_at hMd hm (n := k') (by omega) g3 (p := p) (by omega)
  obtain ⟨re, s1, s2⟩ := hind_end hIt
  obtain ⟨-, -, hah, -⟩ := hr
  have hz : 24 * m + p < 192 := by omega
  unfold f_X8_hindranceOf f_X9_hindrance f_X9_hindrance_70 f_X9_hindrance_82 f_X9_hindrance_93 f_X8_hindranceOf_75 f_X8_needsDraining
  simp only [ob_some, gd_t (show a ∈ cl cs ∧ ck cs a = 0 from ⟨x2, x3⟩), y0, g1, f0, f2, some_bind, y8, y6, y5, ldI_n hc (show c < 2 ^ 31 by omega), l24, nI_mul, nI_add, ldI_n hz (show 24 * m + p < 2 ^ 31 by omega), isOn8 hA hk hk24 hp, isOn9 hc, s1, s2]
  by_cases q8 : ma ms 54 c = 0
  · rw [if_pos q8, if_pos q8]
    by_cases qo : onb (ma ms 50 c) (nI p) = 0
    · rw [if_pos qo, if_pos qo]; exact ⟨_, rfl, rfl⟩
    rw [if_neg qo, if_neg qo]
    have hon : ∃ b, f_X1_isOn cs a (ma ms 40 (24 * m + p)) = some b ∧ ((ma ms 40 (24 * m + p) = -1 ∧ b = 0) ∨ (ma ms 40 (24 * m + p) ≠ -1 ∧ b = onb (ma ms 50 c) (ma ms 40 (24 * m + p)))) := by
      rcases hah with q | ⟨j, hj, q⟩
      · exact ⟨0, by rw [q]; exact isOn8_neg, Or.inl ⟨q, rfl⟩⟩
      · exact ⟨_, by rw [q]; exact isOn8 hA hk hk24 (by omega), Or.inr ⟨by rw [q]; exact nI_ne_neg (by omega), by rw [q]⟩⟩
    obtain ⟨b, hb, hb2⟩ := hon
    rw [hb, some_bind]
    have tail : ∃ r, ((if ma ms 38 (24 * m + p) = 3 then some 1 else if ma ms 38 (24 * m + p) = 4 then some 1 else some 0).bind fun r9 => if r9 = (0 : Int32) then (if ma ms 38 (24 * m + p) = 5 then (if ma ms 50 c = 1 <<< (nI p &&& 31) then some re else some 5) else some re) else (if ma ms 52 c = 0 then some 4 else (if ma ms 38 (24 * m + p) = 5 then (if ma ms 50 c = 1 <<< (nI p &&& 31) then some re else some 5) else some re))) = some r ∧ (if ma ms 38 (24 * m + p) = 3 then (if ma ms 52 c = 0 then some 4 else (if ma ms 38 (24 * m + p) = 5 then (if ma ms 50 c = 1 <<< (nI p &&& 31) then some re else some 5) else some re)) else if ma ms 38 (24 * m + p) = 4 then (if ma ms 52 c = 0 then some 4 else (if ma ms 38 (24 * m + p) = 5 then (if ma ms 50 c = 1 <<< (nI p &&& 31) then some re else some 5) else some re)) else (if ma ms 38 (24 * m + p) = 5 then (if ma ms 50 c = 1 <<< (nI p &&& 31) then some re else some 5) else some re)) = some r := by
      obtain ⟨A, hA⟩ : ∃ A : Int32, (if ma ms 50 c = 1 <<< (nI p &&& 31) then some re else some 5) = some A := by
        by_cases z : ma ms 50 c = 1 <<< (nI p &&& 31)
        · exact ⟨re, if_pos z⟩
        · exact ⟨5, if_neg z⟩
      rw [hA]
      by_cases k3 : ma ms 38 (24 * m + p) = 3
      · rw [if_pos k3, if_pos k3, some_bind, if_neg one_ne]
        by_cases d : ma ms 52 c = 0
        · rw [if_pos d]; exact ⟨_, rfl, rfl⟩
        · rw [if_neg d, if_neg (by rw [k3]; decide)]; exact ⟨_, rfl, rfl⟩
      rw [if_neg k3, if_neg k3]
      by_cases k4 : ma ms 38 (24 * m + p) = 4
      · rw [if_pos k4, if_pos k4, some_bind, if_neg one_ne]
        by_cases d : ma ms 52 c = 0
        · rw [if_pos d]; exact ⟨_, rfl, rfl⟩
        · rw [if_neg d, if_neg (by rw [k4]; decide)]; exact ⟨_, rfl, rfl⟩
      rw [if_neg k4, if_neg k4, some_bind, if_pos rfl]
      by_cases k5 : ma ms 38 (24 * m + p) = 5
      · rw [if_pos k5]; exact ⟨_, rfl, rfl⟩
      · rw [if_neg k5]; exact ⟨_, rfl, rfl⟩
    rcases hb2 with ⟨q, rfl⟩ | ⟨q, rfl⟩
    · rw [if_pos rfl, if_pos q]; exact tail
    · rw [if_neg q]
      by_cases qb : onb (ma ms 50 c) (ma ms 40 (24 * m + p)) = 0
      · rw [if_pos qb, if_pos qb]; exact tail
      · rw [if_neg qb, if_neg qb]; exact ⟨_, rfl, rfl⟩
  · rw [if_neg q8, if_neg q8]; exact ⟨_, rfl, rfl⟩
theorem P_hinders : H_hinders RR := by
  rintro cs ms v1 v2 hR
  have hX0 : RR cs (miU ms 0 0) := hR
  have hX1 : RR cs (miU ms 0 1) := hR
  obtain ⟨-, -, -, -, h5, -⟩ := hR
  obtain ⟨-, -, -, hMd, -, hIt, -⟩ := id hX0
  unfold f_X8_hinders f_X9_hinders
  rcases part_cases (v1 := v1) (v2 := v2) h5 with ⟨c, a, p, k, hc, rfl, hc9, hA, hG, hk, hk24, hp, rfl, e1, e2⟩ | ⟨e1, e2⟩
  · obtain ⟨r, r1, r2⟩ := hind_eq (cs := cs) (ms := miU ms 0 0) hMd hIt hc hA hG hk hk24 hp
    rw [e1, e2, b2_some, if_neg one_ne, bx_inl, ob_some, r1, r2]
    exact ⟨_, _, rfl, _, _, rfl, agr_l rfl hX0⟩
  · rw [e1, e2, b2_some, if_pos rfl, bx_inr]
    exact ⟨_, _, rfl, _, _, rfl, agr_r rfl (by simp) hX1⟩

/-! ===== car, the two sides together ===== -/
theorem ci_cpU {s : CS} {a k : Nat} {v : Int32} : ci (cpU s a k v) = ci s := rfl
theorem cl_cpU {s : CS} {a k : Nat} {v : Int32} : cl (cpU s a k v) = cl s := rfl
theorem ck_cpU {s : CS} {a k : Nat} {v : Int32} : ck (cpU s a k v) = ck s := rfl
theorem ci_cgU {s : CS} {k i v : Nat} : ci (cgU s k i v) = ci s := rfl
theorem ci_cnU {s : CS} {a k : Nat} : ci (cnU s a k) = ci s := rfl
def RPl (X : CS) (Y : MS) : Prop := RSh X Y ∧ RTp X Y ∧ RFt X Y ∧ RMd X Y ∧ RFd X Y ∧ RDy X Y ∧ RTl X Y
theorem RPl_cpU {X : CS} {Y : MS} {a k : Nat} {v : Int32} (h : RPl X Y) : RPl (cpU X a k v) Y := h
theorem RPl_cnU {X : CS} {Y : MS} {a k : Nat} (h : RPl X Y) : RPl (cnU X a k) Y := h
theorem RPl_cgU {X : CS} {Y : MS} {i v : Nat} (h : RPl X Y) : RPl (cgU X 8 i v) Y := h
theorem RPl_ciU {X : CS} {Y : MS} {v : Int32} (h : RPl X Y) : RPl (ciU X 0 v) Y := h
theorem RPl_crC {cs : CS} {Y : MS} {q n m k : Nat} {v2 v3 on : Int32} (h : RPl cs Y) : RPl (crC cs q n m k v2 v3 on) Y :=
  RPl_ciU (RPl_cgU (RPl_cpU (RPl_cpU (RPl_cpU (RPl_cpU (RPl_cpU (RPl_cpU (RPl_cpU (RPl_cpU (RPl_cpU (RPl_cnU h)))))))))))
theorem RPl_46 {X : CS} {Y : MS} {i : Nat} {v : Int32} (h : RPl X Y) : RPl X (maU Y 46 i v) := h
theorem RPl_47 {X : CS} {Y : MS} {i : Nat} {v : Int32} (h : RPl X Y) : RPl X (maU Y 47 i v) := h
theorem RPl_48 {X : CS} {Y : MS} {i : Nat} {v : Int32} (h : RPl X Y) : RPl X (maU Y 48 i v) := h
theorem RPl_49 {X : CS} {Y : MS} {i : Nat} {v : Int32} (h : RPl X Y) : RPl X (maU Y 49 i v) := h
theorem RPl_50 {X : CS} {Y : MS} {i : Nat} {v : Int32} (h : RPl X Y) : RPl X (maU Y 50 i v) := h
theorem RPl_51 {X : CS} {Y : MS} {i : Nat} {v : Int32} (h : RPl X Y) : RPl X (maU Y 51 i v) := h
theorem RPl_52 {X : CS} {Y : MS} {i : Nat} {v : Int32} (h : RPl X Y) : RPl X (maU Y 52 i v) := h
theorem RPl_53 {X : CS} {Y : MS} {i : Nat} {v : Int32} (h : RPl X Y) : RPl X (maU Y 53 i v) := h
theorem RPl_54 {X : CS} {Y : MS} {i : Nat} {v : Int32} (h : RPl X Y) : RPl X (maU Y 54 i v) := h
theorem RPl_mi {X : CS} {Y : MS} {v : Int32} (h : RPl X Y) : RPl X (miU Y 0 v) := h
theorem RPl_crM {X : CS} {ms : MS} {n m k : Nat} {v2 v3 on : Int32} (h : RPl X ms) : RPl X (crM ms n m k v2 v3 on) :=
  RPl_54 (RPl_53 (RPl_52 (RPl_51 (RPl_50 (RPl_49 (RPl_48 (RPl_47 (RPl_46 (RPl_mi h)))))))))
theorem car_RR {X : CS} {Y : MS} {W : Nat → Int32} {P : Nat → Int64} {N : Int32} (h : RPl X Y) (h5 : RCr X (miU Y 9 N)) (h6 : RIt X (miU Y 9 N)) (h7 : RWf W P (mb Y 58) (mb Y 56) (mb Y 57) (mb Y 59)) : RR (ciU (caS X 10 W) 11 0) (miU (miU (mbS Y 55 P) 9 N) 11 0) := by
  obtain ⟨h1, h2, h3, h4, h9, h10, h11⟩ := h
  exact ⟨h1, h2, h3, h4, h5, h6, h7, ⟨0, by omega, rfl, rfl, fun j hj => absurd hj (by omega), fun j j' hj => absurd hj (by omega)⟩, h9, h10, h11⟩
theorem car_good {cs : CS} {ms : MS} (hR : RR cs ms) {q n m k : Nat} {v2 v3 v4 : Int32} (hq : q ∉ cl cs) (hn : n < 40) (e9 : mi ms 9 = nI n) (e0 : ci cs 0 = nI n) (hm : m < 8) (hk0 : 0 < k) (hk : k ≤ 24) (g3 : ma ms 37 m = nI k) : ∃ cs' ms', f_X8_car_109 (cnU cs q 0) (nI m) v2 v3 v4 (nI k) (nI (2 ^ k - 1)) q = some (.inl (nI n), cs') ∧ f_X9_car_108 (miU ms 0 0) (nI m) v2 v3 v4 1 = some (nI n, ms') ∧ RR cs' ms' ∧ mi ms' 0 = 0 := by
  obtain ⟨h1, h2, h3, h4, h5, h6, h7, h8, h9, ⟨dd, hd, d1, d2⟩, h11⟩ := hR
  have hdd : ci cs 3 = mi ms 10 := d1.trans d2.symm
  have hn31 : n < 2 ^ 31 := by omega
  have hw24 : 2 ^ k - 1 < 2 ^ 24 := by
    have := Nat.pow_le_pow_right (n := 2) (by omega) hk
    omega
  obtain ⟨o, ho, eo⟩ := and_le hw24 (v4 ^^^ -1)
  have ho2 : o < 2 ^ k := by have := Nat.two_pow_pos k; omega
  have hAt := cr_at (cs := cs) (ms := ms) (q := q) (n := n) (m := m) (k := k) (v2 := v2) (v3 := v3) (on := nI o) hdd
  have h4' : RMd (crC cs q n m k v2 v3 (nI o)) (crM ms n m k v2 v3 (nI o)) := h4
  obtain ⟨W', P', l1, l2, l3⟩ := come_loop (b := mb ms 58) (c := mb ms 56) (d := mb ms 57) (e := mb ms 59) h4' hn hAt hm (upd_eq (f := ma ms 46)) (upd_eq (f := ma ms 49)) hk g3 1000 0 (ca cs 10) (mb ms 55) (by omega) (by omega) h7
  have eW : caS (crC cs q n m k v2 v3 (nI o)) 10 (ca cs 10) = crC cs q n m k v2 v3 (nI o) := caS_id (s := crC cs q n m k v2 v3 (nI o)) (k := 10)
  have eP : mbS (crM ms n m k v2 v3 (nI o)) 55 (mb ms 55) = crM ms n m k v2 v3 (nI o) := mbS_id (s := crM ms n m k v2 v3 (nI o)) (k := 55)
  rw [eW] at l1
  rw [eP] at l2
  have en1 : mi (crM ms n m k v2 v3 (nI o)) 9 + 1 = nI (n + 1) := by
    show mi ms 9 + 1 = _
    rw [e9, nI_1]
  rw [en1] at l2
  refine ⟨ciU (caS (crC cs q n m k v2 v3 (nI o)) 10 W') 11 0, miU (miU (mbS (crM ms n m k v2 v3 (nI o)) 55 P') 9 (nI (n + 1))) 11 0, ?_, ?_, car_RR (RPl_crM (RPl_crC ⟨h1, h2, h3, h4, h9, ⟨dd, hd, d1, d2⟩, h11⟩)) ?_ ?_ l3, rfl⟩
  · have c1 : q ∈ cl (cnU cs q 0) ∧ ck (cnU cs q 0) q = 0 := ⟨List.mem_append_right _ (List.mem_singleton.mpr rfl), ck_N⟩
    unfold f_X8_car_109 f_X1_init f_X8_weighComing f_X0_forget
    rw [gd_t c1, gd_t c1, some_bind, eo]
    have e3 : ci (cnU cs q 0) 3 = ci cs 3 := rfl
    have ec1 : ∀ X, ci (cpU (cpU (cpU (cpU (cpU (cpU (cpU (cpU (cpU (cnU cs q 0) q 6 0) q 7 0) q 8 0) q 0 (nI m)) q 1 v2) q 2 v3) q 3 (nI k)) q 5 (nI o)) q 4 X) 0 = nI n := fun X => by simp only [ci_cpU, ci_cnU]; exact e0
    have ec2 : ∀ X, ci (cgU (cpU (cpU (cpU (cpU (cpU (cpU (cpU (cpU (cpU (cnU cs q 0) q 6 0) q 7 0) q 8 0) q 0 (nI m)) q 1 v2) q 2 v3) q 3 (nI k)) q 5 (nI o)) q 4 X) 8 n q) 0 = nI n := fun X => by simp only [ci_cpU, ci_cnU, ci_cgU]; exact e0
    have c2 : ∀ X, q ∈ cl (cpU (cpU (cpU (cpU (cpU (cpU (cpU (cpU (cpU (cnU cs q 0) q 6 0) q 7 0) q 8 0) q 0 (nI m)) q 1 v2) q 2 v3) q 3 (nI k)) q 5 (nI o)) q 4 X) ∧ ck (cpU (cpU (cpU (cpU (cpU (cpU (cpU (cpU (cpU (cnU cs q 0) q 6 0) q 7 0) q 8 0) q 0 (nI m)) q 1 v2) q 2 v3) q 3 (nI k)) q 5 (nI o)) q 4 X) q = 0 := fun X => by simp only [cl_cpU, ck_cpU]; exact c1
    rw [gd_t (c2 _), ec1, ixr_n hn hn31, nI_clamp hn31, ec2, nI_1, ob_some, e3]
    rw [show f_X8_weighComing_2 1000 (ciU (cgU (cpU (cpU (cpU (cpU (cpU (cpU (cpU (cpU (cpU (cnU cs q 0) q 6 0) q 7 0) q 8 0) q 0 (nI m)) q 1 v2) q 2 v3) q 3 (nI k)) q 5 (nI o)) q 4 (ci cs 3)) 8 n q) 0 (nI (n + 1))) q 0 = _ from l1, some_bind, some_bind]
    exact congrArg (fun z => some ((.inl z, ciU (caS (crC cs q n m k v2 v3 (nI o)) 10 W') 11 0) : (Int32 ⊕ String) × CS)) (show nI (n + 1) - 1 = nI n by rw [nI_sub1 (by omega)]; rfl)
  · have e9' : mi (miU ms 0 0) 9 = nI n := e9
    have n40 : ¬ nI n = (40 : Int32) := fun z => by
      have := nI_inj (b := 40) (by omega) (by omega) z
      omega
    unfold f_X9_car_108
    rw [may_1, b2_some, if_neg one_ne, e9', if_neg n40]
    simp only [ixr_n hn hn31, nI_clamp hn31, pa_1, pa_5 (show (37 : Nat) ≠ 46 by decide), pa_5 (show (37 : Nat) ≠ 47 by decide), pa_5 (show (37 : Nat) ≠ 48 by decide), pa_5 (show (37 : Nat) ≠ 49 by decide), ldI_n hm (show m < 2 ^ 31 by omega), g3, some_bind, nI_whole hk, eo, pi_1, pi_5 (show (10 : Nat) ≠ 0 by decide), nar_b0]
    exact l2
  · exact cr_RCr h5 hq hdd hn e9 hm hk0 hk g3 ho2
  · exact cr_RIt h6 hq hn e9
theorem P_car : H_car RR := by
  rintro cs ms v1 v2 v3 v4 hR
  have hX0 : RR cs (miU ms 0 0) := hR
  have hX1 : RR cs (miU ms 0 1) := hR
  obtain ⟨-, -, -, h4, h5, -⟩ := id hR
  obtain ⟨n, hn, i1, i2, -⟩ := id h5
  have b78 : f_X9_car_78 (miU ms 0 0) v1 v2 v3 v4 0 = some (0, miU ms 0 1) := by
    unfold f_X9_car_78
    rw [may_0 (t := 0) (by decide), b2_some, if_pos rfl]
  have b41 : f_X9_car_41 (miU ms 0 0) v1 v2 v3 v4 = some (0, miU ms 0 1) := by
    unfold f_X9_car_41 f_X9_car_42 f_X9_car_77
    rw [if_pos rfl, b78]
  have b107 : f_X9_car_107 (miU ms 0 0) v1 v2 v3 v4 = some (0, miU ms 0 1) := by
    unfold f_X9_car_107 f_X9_car_108
    rw [may_0 (t := 0) (by decide), b2_some, if_pos rfl]
  have bad : f_X8_car cs v1 v2 v3 v4 = some (.inl (.inr "java/lang/IllegalArgumentException"), cs) → f_X9_car ms v1 v2 v3 v4 = some (0, miU ms 0 1) → ∃ (rb : Int32) (ms' : MS), f_X9_car ms v1 v2 v3 v4 = some (rb, ms') ∧ ∃ Z, f_X8_car cs v1 v2 v3 v4 = some Z ∧ (∀ r S9, Z = (.inl r, S9) → Agr cd1 ["java/lang/IllegalArgumentException"] RR rb ms' r S9) ∧ ∀ (x0 x1 x2 x3 x4 x5 : Int32) (S1 : CS), Z = (.inr (x0, x1, x2, x3, x4, x5), S1) → ∀ q, q ∉ cl S1 → ∃ r S9, f_X8_car_109 (cnU S1 q 0) x0 x1 x2 x3 x4 x5 q = some (r, S9) ∧ Agr cd1 ["java/lang/IllegalArgumentException"] RR rb ms' r S9 := by
    intro a1 a2
    refine ⟨_, _, a2, _, a1, fun r S9 hz => ?_, fun x0 x1 x2 x3 x4 x5 S1 hz q hq => ?_⟩
    · cases hz
      exact agr_r rfl (by simp) hX1
    · cases hz
  by_cases q1 : v1 < 0
  · refine bad ?_ ?_
    · unfold f_X8_car
      rw [parts_out (Or.inl q1), some_bind, if_pos rfl]
    · unfold f_X9_car
      rw [if_pos q1, b41]
  obtain ⟨m, hm31, rfl⟩ := nI_of q1
  by_cases q2 : 8 ≤ m
  · have q2' : (8 : Int32) ≤ nI m := nI_le (a := 8) q2 hm31
    refine bad ?_ ?_
    · unfold f_X8_car
      rw [parts_out (Or.inr q2'), some_bind, if_pos rfl]
    · unfold f_X9_car
      rw [if_neg q1, if_pos q2', b41]
  have hm : m < 8 := by omega
  have q2' : ¬ (8 : Int32) ≤ nI m := nI_ge (b := 8) (by omega) (by omega)
  have q7 : nI m ≤ (7 : Int32) := nI_le (b := 7) (by omega) (by omega)
  obtain ⟨k, hk, e20, e37, -⟩ := h4 m hm
  have e37' : ldI (ma (miU ms 0 0) 37) 8 (nI m) = some (nI k) := by
    rw [ldI_n hm hm31]
    exact congrArg some e37
  have e8 : f_X8_car cs (nI m) v2 v3 v4 = if nI k = 0 then (some (.inl (.inr "java/lang/IllegalArgumentException"), cs)) else (if v2 < 0 then (some (.inl (.inr "java/lang/IllegalArgumentException"), cs)) else (if (9999 : Int32) < v2 then (some (.inl (.inr "java/lang/IllegalArgumentException"), cs)) else (if v3 < 0 then (some (.inl (.inr "java/lang/IllegalArgumentException"), cs)) else (if v3 ≤ (255 : Int32) then (if (v4 &&& (nI (2 ^ k - 1) ^^^ (-1 : Int32))) = 0 then (if (ci cs 0) < 0 then (some (.inl (.inl (-1 : Int32)), cs)) else (if (ci cs 0) < (40 : Int32) then (some (.inr (nI m, v2, v3, v4, nI k, nI (2 ^ k - 1)), cs)) else (some (.inl (.inl (-1 : Int32)), cs)))) else (some (.inl (.inr "java/lang/IllegalArgumentException"), cs))) else (some (.inl (.inr "java/lang/IllegalArgumentException"), cs)))))) := by
    unfold f_X8_car
    rw [parts_n hm, some_bind, e20, nI_whole hk]
  have e9 : f_X9_car ms (nI m) v2 v3 v4 = if v2 < 0 then some (0, miU ms 0 1) else (if (9999 : Int32) < v2 then some (0, miU ms 0 1) else (if v3 < 0 then some (0, miU ms 0 1) else (if (255 : Int32) < v3 then some (0, miU ms 0 1) else if nI k ≤ 0 then some (0, miU ms 0 1) else f_X9_car_78 (miU ms 0 0) (nI m) v2 v3 v4 1))) := by
    unfold f_X9_car
    rw [if_neg q1, if_neg q2', b41]
    unfold f_X9_car_42 f_X9_car_69 f_X9_car_77
    rw [if_neg one_ne, if_neg q1, if_pos q7, e37', some_bind, b78]
  by_cases k0 : k = 0
  · refine bad (e8.trans (if_pos (by rw [k0]; rfl))) (e9.trans ?_)
    rw [if_pos (show nI k ≤ 0 by rw [k0]; decide)]
    split
    · rfl
    · split
      · rfl
      · split
        · rfl
        · split <;> rfl
  have kn0 : ¬ nI k = 0 := fun z => k0 (nI_inj (b := 0) (by omega) (by omega) z)
  have kn1 : ¬ nI k ≤ 0 := nI_ge (a := 0) (by omega) (by omega)
  rw [if_neg kn0] at e8
  rw [if_neg kn1] at e9
  by_cases a1 : v2 < 0
  · exact bad (e8.trans (if_pos a1)) (e9.trans (if_pos a1))
  rw [if_neg a1] at e8 e9
  by_cases a2 : 9999 < v2
  · exact bad (e8.trans (if_pos a2)) (e9.trans (if_pos a2))
  rw [if_neg a2] at e8 e9
  by_cases a3 : v3 < 0
  · exact bad (e8.trans (if_pos a3)) (e9.trans (if_pos a3))
  rw [if_neg a3] at e8 e9
  obtain ⟨w3, hw3, rfl⟩ := nI_of a3
  by_cases a4 : w3 ≤ 255
  · rw [if_pos (show nI w3 ≤ (255 : Int32) from nI_le (b := 255) a4 (by omega))] at e8
    rw [if_neg (show ¬ (255 : Int32) < nI w3 from nI_nlt (a := 255) a4 (by omega))] at e9
    have L := lacks_iff hk v4
    have e37a : ∀ X : MS, ma X 37 = ma ms 37 → ldI (ma X 37) 8 (nI m) = some (nI k) := fun X hX => by
      rw [ldI_n hm (by omega), hX, e37]
    have e78 : f_X9_car_78 (miU ms 0 0) (nI m) v2 (nI w3) v4 1 = if v4 < 0 then some (0, miU ms 0 1) else if v4 >>> (nI k &&& 31) = 0 then f_X9_car_108 (miU ms 0 0) (nI m) v2 (nI w3) v4 1 else some (0, miU ms 0 1) := by
      unfold f_X9_car_78
      rw [may_1, b2_some, if_neg one_ne, b107, e37', some_bind]
    by_cases lk : v4 &&& (nI (2 ^ k - 1) ^^^ -1) = 0
    · obtain ⟨lk1, lk2⟩ := L.mp lk
      rw [if_pos lk, i1] at e8
      rw [e78, if_neg lk1, if_pos lk2] at e9
      by_cases n40 : n = 40
      · subst n40
        rw [if_neg (show ¬ nI 40 < 0 by decide), if_neg (show ¬ nI 40 < (40 : Int32) by decide)] at e8
        have e108 : f_X9_car_108 (miU ms 0 0) (nI m) v2 (nI w3) v4 1 = some (-1, miU ms 0 0) := by
          unfold f_X9_car_108
          rw [may_1, b2_some, if_neg one_ne, if_pos (show mi (miU ms 0 0) 9 = 40 from i2)]
        rw [e108] at e9
        refine ⟨_, _, e9, _, e8, fun r S9 hz => ?_, fun x0 x1 x2 x3 x4 x5 S1 hz q hq => ?_⟩
        · cases hz
          exact agr_l rfl hX0
        · cases hz
      · rw [if_neg (show ¬ nI n < 0 from nI_pos (by omega)), if_pos (show nI n < (40 : Int32) from nI_lt (b := 40) (by omega) (by omega))] at e8
        have good := fun q (hq : q ∉ cl cs) => car_good (v2 := v2) (v3 := nI w3) (v4 := v4) hR hq (show n < 40 by omega) i2 i1 hm (by omega) hk e37
        obtain ⟨q0, hq0⟩ := fresh_nat (cl cs)
        obtain ⟨cs0', ms0, -, g2, -, g4⟩ := good q0 (fun z => absurd (hq0 _ z) (by omega))
        rw [g2] at e9
        refine ⟨_, _, e9, _, e8, fun r S9 hz => ?_, fun x0 x1 x2 x3 x4 x5 S1 hz q hq => ?_⟩
        · cases hz
        · obtain ⟨hz1, rfl⟩ := Prod.mk.inj hz
          obtain ⟨rfl, hz2⟩ := Prod.mk.inj (Sum.inr.inj hz1)
          obtain ⟨rfl, hz3⟩ := Prod.mk.inj hz2
          obtain ⟨rfl, hz4⟩ := Prod.mk.inj hz3
          obtain ⟨rfl, hz5⟩ := Prod.mk.inj hz4
          obtain ⟨rfl, rfl⟩ := Prod.mk.inj hz5
          obtain ⟨cs', ms1, f1, f2, f3, f4⟩ := good q hq
          have : ms1 = ms0 := (Prod.mk.inj (Option.some.inj (f2.symm.trans g2))).2
          subst this
          exact ⟨_, _, f1, agr_l f4 f3⟩
    · rw [if_neg lk] at e8
      refine bad e8 ?_
      rw [e9, e78]
      by_cases lk1 : v4 < 0
      · rw [if_pos lk1]
      · rw [if_neg lk1, if_neg (fun z => lk (L.mpr ⟨lk1, z⟩))]
  · rw [if_neg (show ¬ nI w3 ≤ (255 : Int32) from nI_ge (a := 255) (by omega) (by omega))] at e8
    rw [if_pos (show (255 : Int32) < nI w3 from nI_lt (a := 255) (by omega) (by omega))] at e9
    exact bad e8 e9

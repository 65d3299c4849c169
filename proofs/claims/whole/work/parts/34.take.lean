/-! ===== take ===== -/
theorem hr113 {ms : MS} {r : Int32} (h : f_X9_hindrance_113 ms = some r) : (r = 0 ∧ mi ms 13 ≠ 60 ∧ mi ms 12 ≠ 400) ∨ ¬ r ≤ 0 := by
  unfold f_X9_hindrance_113 at h
  by_cases q1 : mi ms 13 = 60
  · rw [if_pos q1] at h; right; rw [← Option.some.inj h]; decide
  rw [if_neg q1] at h
  by_cases q2 : mi ms 12 = 400
  · rw [if_pos q2] at h; right; rw [← Option.some.inj h]; decide
  rw [if_neg q2] at h
  exact Or.inl ⟨(Option.some.inj h).symm, q1, q2⟩
theorem hr93 {ms : MS} {v1 v2 v5 r : Int32} (h : f_X9_hindrance_93 ms v1 v2 v5 = some r) : (r = 0 ∧ mi ms 13 ≠ 60 ∧ mi ms 12 ≠ 400) ∨ ¬ r ≤ 0 := by
  unfold f_X9_hindrance_93 at h
  by_cases q1 : v5 = 5
  · rw [if_pos q1] at h
    obtain ⟨v, hv, h⟩ := Option.bind_eq_some_iff.mp h
    by_cases q2 : v = 1 <<< (v2 &&& 31)
    · rw [if_pos q2] at h; exact hr113 h
    · rw [if_neg q2] at h; right; rw [← Option.some.inj h]; decide
  · rw [if_neg q1] at h; exact hr113 h
theorem hr82 {ms : MS} {v1 v2 v5 r : Int32} (h : f_X9_hindrance_82 ms v1 v2 v5 = some r) : (r = 0 ∧ mi ms 13 ≠ 60 ∧ mi ms 12 ≠ 400) ∨ ¬ r ≤ 0 := by
  unfold f_X9_hindrance_82 at h
  obtain ⟨v, hv, h⟩ := Option.bind_eq_some_iff.mp h
  by_cases q2 : v = 0
  · rw [if_pos q2] at h; right; rw [← Option.some.inj h]; decide
  · rw [if_neg q2] at h; exact hr93 h
theorem hr70 {ms : MS} {v1 v2 v5 r : Int32} (h : f_X9_hindrance_70 ms v1 v2 v5 = some r) : (r = 0 ∧ mi ms 13 ≠ 60 ∧ mi ms 12 ≠ 400) ∨ ¬ r ≤ 0 := by
  unfold f_X9_hindrance_70 at h
  by_cases q1 : v5 = 3
  · rw [if_pos q1] at h; exact hr82 h
  rw [if_neg q1] at h
  by_cases q2 : v5 = 4
  · rw [if_pos q2] at h; exact hr82 h
  · rw [if_neg q2] at h; exact hr93 h
theorem hr_all {ms : MS} {v1 v2 r : Int32} (h : f_X9_hindrance ms v1 v2 = some r) : (r = 0 ∧ mi ms 13 ≠ 60 ∧ mi ms 12 ≠ 400 ∧ ldI (ma ms 54) 40 v1 = some 0) ∨ ¬ r ≤ 0 := by
  unfold f_X9_hindrance at h
  obtain ⟨z1, hz1, h⟩ := Option.bind_eq_some_iff.mp h
  obtain ⟨z2, hz2, h⟩ := Option.bind_eq_some_iff.mp h
  obtain ⟨z3, hz3, h⟩ := Option.bind_eq_some_iff.mp h
  obtain ⟨z4, hz4, h⟩ := Option.bind_eq_some_iff.mp h
  by_cases q1 : z4 = 0
  · rw [if_pos q1] at h
    obtain ⟨z5, hz5, h⟩ := Option.bind_eq_some_iff.mp h
    rw [q1] at hz4
    have plus : ((r = 0 ∧ mi ms 13 ≠ 60 ∧ mi ms 12 ≠ 400) ∨ ¬ r ≤ 0) → (r = 0 ∧ mi ms 13 ≠ 60 ∧ mi ms 12 ≠ 400 ∧ ldI (ma ms 54) 40 v1 = some 0) ∨ ¬ r ≤ 0 := fun z => z.imp (fun y => ⟨y.1, y.2.1, y.2.2, hz4⟩) id
    by_cases q2 : z5 = 0
    · rw [if_pos q2] at h; right; rw [← Option.some.inj h]; decide
    rw [if_neg q2] at h
    by_cases q3 : z2 = -1
    · rw [if_pos q3] at h; exact plus (hr70 h)
    rw [if_neg q3] at h
    obtain ⟨z6, hz6, h⟩ := Option.bind_eq_some_iff.mp h
    by_cases q4 : z6 = 0
    · rw [if_pos q4] at h; exact plus (hr70 h)
    · rw [if_neg q4] at h; right; rw [← Option.some.inj h]; decide
  · rw [if_neg q1] at h; right; rw [← Option.some.inj h]; decide
/-- a new object: no car is touched -/
theorem RCr_new {cs : CS} {ms : MS} (h : RCr cs ms) {q k : Nat} (hq : q ∉ cl cs) : RCr (cnU cs q k) ms := by
  obtain ⟨n, hn, i1, i2, i3, i4⟩ := h
  refine ⟨n, hn, i1, i2, fun c hc => ?_, i4⟩
  obtain ⟨hr, a, x1, x2, x3, w⟩ := i3 c hc
  have hne : a ≠ q := fun z => hq (z ▸ x2)
  have e : cp (cnU cs q k) a = cp cs a := cp_N_ne hne
  exact ⟨hr, a, x1, List.mem_append_left _ x2, (ck_N_ne hne).trans x3, by rw [e]; exact w⟩
theorem RIt_new {cs : CS} {ms : MS} (h : RIt cs ms) {q k : Nat} (hq : q ∉ cl cs) : RIt (cnU cs q k) ms := by
  obtain ⟨n, hn, i1, i2, i3, i4, i5⟩ := h
  refine ⟨n, hn, i1, i2, fun c hc => ?_, i4, i5⟩
  obtain ⟨hr, a, x1, x2, x3, w⟩ := i3 c hc
  have hne : a ≠ q := fun z => hq (z ▸ x2)
  have e : cp (cnU cs q k) a = cp cs a := cp_N_ne hne
  exact ⟨hr, a, x1, List.mem_append_left _ x2, (ck_N_ne hne).trans x3, by rw [e]; exact w⟩
theorem CarAt_new {cs : CS} {ms : MS} {c a q k : Nat} (h : CarAt cs ms c a) (hq : q ∉ cl cs) : CarAt (cnU cs q k) ms c a := by
  obtain ⟨x1, x2, x3, w⟩ := h
  have hne : a ≠ q := fun z => hq (z ▸ x2)
  have e : cp (cnU cs q k) a = cp cs a := cp_N_ne hne
  exact ⟨x1, List.mem_append_left _ x2, (ck_N_ne hne).trans x3, by rw [e]; exact w⟩
theorem upd_upd {f : Nat → Int32} {i : Nat} {x y : Int32} : upd (upd f i x) i y = upd f i y := by
  funext j
  by_cases h : j = i
  · rw [h, upd_eq, upd_eq]
  · rw [upd_ne h, upd_ne h, upd_ne h]
theorem cnt0_ext {f g : Nat → Int32} : ∀ n, (∀ j, j < n → f j = g j) → cnt0 f n = cnt0 g n := by
  intro n
  induction n with
  | zero => intro _; rfl
  | succ n ih =>
    intro h
    rw [cnt0, cnt0, ih (fun j hj => h j (by omega)), h n (by omega)]
/-- the new item, before it comes to the shelf -/
def tkC (cs : CS) (q a n c p : Nat) : CS := ciU (cgU (cpU (cpU (cpU (cpU (cpU (cpU (cnU cs q 1) q 3 3) q 4 0) q 5 0) q 0 (nI c)) q 1 (cp (cnU cs q 1) a 0)) q 2 (nI p)) 9 n q) 1 (nI (n + 1))
def tkG (ms : MS) (n c p : Nat) : MS := miU (maU (maU (maU (maU ms 63 n (nI c)) 64 n (nI p)) 65 n 3) 66 n 0) 12 (nI (n + 1))
theorem tkC_ne {cs : CS} {q a n c p b k : Nat} (h : b ≠ q) : cp (tkC cs q a n c p) b k = cp cs b k :=
  (cp_ne h).trans ((cp_ne h).trans ((cp_ne h).trans ((cp_ne h).trans ((cp_ne h).trans ((cp_ne h).trans (congrFun (cp_N_ne h) k))))))
theorem tk_new {cs : CS} {ms : MS} (hC : RCr cs ms) (hI : RIt cs ms) {q a n c p k : Nat} (hq : q ∉ cl cs) (hc : c < 40) (hlt : nI c < mi ms 9) (hA : CarAt cs ms c a) (hk : ma ms 49 c = nI k) (hk24 : k ≤ 24) (hp : p < k) (hn : n < 400) (e12 : mi ms 12 = nI n) : RIt (tkC cs q a n c p) (tkG ms n c p) ∧ ∃ m k', ItOK (tkC cs q a n c p) (tkG ms n c p) n q c m p k' := by
  obtain ⟨n2, hn2, h1, h2, h3, h4, h5, h6, h7⟩ := hI
  obtain rfl : n = n2 := nI_inj (by omega) (by omega) (e12.symm.trans h2)
  obtain ⟨n9, hn9, i1, i2, i3, i4⟩ := hC
  obtain ⟨x1, x2, x3, y0, -⟩ := id hA
  have haq : a ≠ q := fun z => hq (z ▸ x2)
  have hcn : c < n9 := by rw [i2] at hlt; exact (nI_lt_iff (by omega) (by omega)).mp hlt
  obtain ⟨⟨-, -, -, m, kk, k', o, hm, g1, hk0, hkk, hk', g2, g3, -⟩, -⟩ := i3 c hcn
  obtain rfl : k = kk := nI_inj (by omega) (by omega) (hk.symm.trans g2)
  have ne63 : ∀ j, j ≠ n → ma (tkG ms n c p) 63 j = ma ms 63 j := fun j hj => upd_ne hj
  have ne64 : ∀ j, j ≠ n → ma (tkG ms n c p) 64 j = ma ms 64 j := fun j hj => upd_ne hj
  have ne65 : ∀ j, j ≠ n → ma (tkG ms n c p) 65 j = ma ms 65 j := fun j hj => upd_ne hj
  have ne66 : ∀ j, j ≠ n → ma (tkG ms n c p) 66 j = ma ms 66 j := fun j hj => upd_ne hj
  have eq63 : ma (tkG ms n c p) 63 n = nI c := upd_eq
  have eq64 : ma (tkG ms n c p) 64 n = nI p := upd_eq
  have eq65 : ma (tkG ms n c p) 65 n = 3 := upd_eq
  have eq66 : ma (tkG ms n c p) 66 n = 0 := upd_eq
  have cgn : cg (tkC cs q a n c p) 9 n = some q := if_pos rfl
  have cgne : ∀ j, j ≠ n → cg (tkC cs q a n c p) 9 j = cg cs 9 j := fun j hj => if_neg hj
  have hqC : q ∈ cl (tkC cs q a n c p) := List.mem_append_right _ (List.mem_singleton.mpr rfl)
  have ckq : ck (tkC cs q a n c p) q = 1 := ck_N
  have p0 : cp (tkC cs q a n c p) q 0 = nI c := (cp_nf (by decide)).trans ((cp_nf (by decide)).trans cp_eq)
  have p1 : cp (tkC cs q a n c p) q 1 = ma ms 46 c := ((cp_nf (by decide)).trans cp_eq).trans ((congrFun (cp_N_ne haq) 0).trans y0)
  have p2 : cp (tkC cs q a n c p) q 2 = nI p := cp_eq
  have p3 : cp (tkC cs q a n c p) q 3 = 3 := (cp_nf (by decide)).trans ((cp_nf (by decide)).trans ((cp_nf (by decide)).trans ((cp_nf (by decide)).trans ((cp_nf (by decide)).trans cp_eq))))
  have p4 : cp (tkC cs q a n c p) q 4 = 0 := (cp_nf (by decide)).trans ((cp_nf (by decide)).trans ((cp_nf (by decide)).trans ((cp_nf (by decide)).trans cp_eq)))
  have hAt : ItemAt (tkC cs q a n c p) (tkG ms n c p) n q := ⟨cgn, hqC, ckq, p0.trans eq63.symm, p2.trans eq64.symm, p3.trans eq65.symm, p4.trans eq66.symm, fun z => by rw [eq65] at z; exact absurd z (by decide), fun c' z1 z2 => by
    have : c' = c := nI_inj (by omega) (by omega) (z1.symm.trans eq63)
    rw [this]; exact p1⟩
  have hpk : nI p < ma ms 49 c := by rw [hk]; exact nI_lt hp (by omega)
  have ecnt : cnt0 (ma (tkG ms n c p) 65) (n + 1) = cnt0 (ma ms 65) n := by
    rw [cnt0, eq65, if_neg (by decide), Nat.add_zero]
    exact cnt0_ext n (fun j hj => ne65 j (by omega))
  refine ⟨⟨n + 1, by omega, rfl, rfl, fun j hj => ?_, fun j j' b hj hj' z1 z2 => ?_, by rw [ecnt]; exact h5, by rw [ecnt]; exact h6, by rw [ecnt]; exact h7⟩, m, k', hAt, hn, hc, hlt, eq63, hm, g1, hk', g3, by omega, eq64, p1.trans g1, p2, hpk⟩
  · by_cases z : j = n
    · subst z
      exact ⟨⟨⟨3, by omega, eq65⟩, c, p, hc, eq63, hlt, by omega, eq64, hpk⟩, q, hAt⟩
    · obtain ⟨⟨⟨u, hu, r1⟩, c', p', r2, r3, r4, r5, r6, r7⟩, b, w1, w2, w3, v0, v2, v3, v4, v5, v1⟩ := h3 j (by omega)
      have hbq : b ≠ q := fun y => hq (y ▸ w2)
      refine ⟨⟨⟨u, hu, (ne65 j z).trans r1⟩, c', p', r2, (ne63 j z).trans r3, r4, r5, (ne64 j z).trans r6, r7⟩, b, (cgne j z).trans w1, List.mem_append_left _ w2, (ck_N_ne hbq).trans w3, (tkC_ne hbq).trans (v0.trans (ne63 j z).symm), (tkC_ne hbq).trans (v2.trans (ne64 j z).symm), (tkC_ne hbq).trans (v3.trans (ne65 j z).symm), (tkC_ne hbq).trans (v4.trans (ne66 j z).symm), fun y => (tkC_ne hbq).trans (v5 ((ne65 j z).symm.trans y)), fun c2 y1 y2 => (tkC_ne hbq).trans (v1 c2 ((ne63 j z).symm.trans y1) y2)⟩
  · by_cases y1 : j = n
    · by_cases y2 : j' = n
      · omega
      · exfalso
        subst y1
        rw [cgn] at z1
        rw [cgne j' y2] at z2
        obtain ⟨-, b', w1, w2, -⟩ := h3 j' (by omega)
        rw [← Option.some.inj z1] at z2
        rw [z2] at w1
        exact hq ((Option.some.inj w1) ▸ w2)
    · by_cases y2 : j' = n
      · exfalso
        subst y2
        rw [cgn] at z2
        rw [cgne j y1] at z1
        obtain ⟨-, b', w1, w2, -⟩ := h3 j (by omega)
        rw [← Option.some.inj z2] at z1
        rw [z1] at w1
        exact hq ((Option.some.inj w1) ▸ w2)
      · rw [cgne j y1] at z1
        rw [cgne j' y2] at z2
        exact h4 j j' b (by omega) (by omega) z1 z2

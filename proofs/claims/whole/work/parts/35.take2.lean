/-! ===== take, the two sides together ===== -/
def tkM (ms : MS) (n c p s : Nat) (g : Int32) : MS := mbU (maU (miU (miU (maU (maU (maU (maU (maU (miU ms 0 0) 63 n (nI c)) 64 n (nI p)) 65 n 0) 66 n (mi ms 10)) 67 n 0) 12 (mi ms 12 + 1)) 13 (mi ms 13 + 1)) 50 c (ma ms 50 c &&& ((1 : Int32) <<< (nI p &&& 31) ^^^ -1))) 58 s (mb ms 58 s + g.toInt64)
def tkC4 (cs : CS) (q a n c p s : Nat) (g : Int32) : CS := moved (tkC cs q a n c p) q (mvW (ca cs 10) s 1 2 g) 0 (ci cs 2 + 1)
def tkC5 (cs : CS) (q a n c p s : Nat) (g : Int32) : CS := cpU (tkC4 cs q a n c p s g) a 5 (cp (tkC4 cs q a n c p s g) a 5 &&& ((1 : Int32) <<< (nI p &&& 31) ^^^ -1))
theorem take9 {ms : MS} {n c p m s : Nat} {g : Int32} (hn : n < 400) (e12 : mi ms 12 = nI n) (hc : c < 40) (hp : p < 24) (hm : m < 8) (e46 : ma ms 46 c = nI m) (hs : s < 4) (h43 : ma ms 43 (24 * m + p) = nI s) (hg : ma ms 42 (24 * m + p) = g) (hi : f_X9_isPartOf (miU ms 0 0) (nI c) (nI p) = some (1, miU ms 0 0)) (hh : f_X9_hindrance (miU ms 0 0) (nI c) (nI p) = some 0) : f_X9_take ms (nI c) (nI p) = (f_X9_acted (tkM ms n c p s g) 3 (nI c) (nI n)).bind fun z => some (nI n, z) := by
  have hn31 : n < 2 ^ 31 := by omega
  have hc31 : c < 2 ^ 31 := by omega
  have hs31 : s < 2 ^ 31 := by omega
  have hz : 24 * m + p < 192 := by omega
  have hz31 : 24 * m + p < 2 ^ 31 := by omega
  have e12' : mi (miU ms 0 0) 12 = nI n := e12
  unfold f_X9_take
  rw [hi, b2_some, if_neg one_ne, hh, some_bind, if_pos (show (0 : Int32) ≤ 0 by decide)]
  unfold tkM
  simp only [f_X9_stuffOf, f_X9_gramsOf, f_X9_partOf, e12', ixr_n hn hn31, nI_clamp hn31, l24, nI_mul, nI_add, pa_1, pa_2, pa_3, pa_4, upd_eq, pa_5 (show (63 : Nat) ≠ 50 by decide), pa_5 (show (63 : Nat) ≠ 67 by decide), pa_5 (show (63 : Nat) ≠ 66 by decide), pa_5 (show (63 : Nat) ≠ 65 by decide), pa_5 (show (63 : Nat) ≠ 64 by decide), pa_5 (show (64 : Nat) ≠ 50 by decide), pa_5 (show (64 : Nat) ≠ 67 by decide), pa_5 (show (64 : Nat) ≠ 66 by decide), pa_5 (show (64 : Nat) ≠ 65 by decide), pa_5 (show (46 : Nat) ≠ 50 by decide), pa_5 (show (46 : Nat) ≠ 67 by decide), pa_5 (show (46 : Nat) ≠ 66 by decide), pa_5 (show (46 : Nat) ≠ 65 by decide), pa_5 (show (46 : Nat) ≠ 64 by decide), pa_5 (show (46 : Nat) ≠ 63 by decide), pa_5 (show (43 : Nat) ≠ 50 by decide), pa_5 (show (43 : Nat) ≠ 67 by decide), pa_5 (show (43 : Nat) ≠ 66 by decide), pa_5 (show (43 : Nat) ≠ 65 by decide), pa_5 (show (43 : Nat) ≠ 64 by decide), pa_5 (show (43 : Nat) ≠ 63 by decide), pa_5 (show (42 : Nat) ≠ 50 by decide), pa_5 (show (42 : Nat) ≠ 67 by decide), pa_5 (show (42 : Nat) ≠ 66 by decide), pa_5 (show (42 : Nat) ≠ 65 by decide), pa_5 (show (42 : Nat) ≠ 64 by decide), pa_5 (show (42 : Nat) ≠ 63 by decide), pa_5 (show (50 : Nat) ≠ 67 by decide), pa_5 (show (50 : Nat) ≠ 66 by decide), pa_5 (show (50 : Nat) ≠ 65 by decide), pa_5 (show (50 : Nat) ≠ 64 by decide), pa_5 (show (50 : Nat) ≠ 63 by decide), pb_1, pb_2, pb_3, pi_1, pi_2, pi_3, pi_5 (show (10 : Nat) ≠ 0 by decide), pi_5 (show (12 : Nat) ≠ 0 by decide), pi_5 (show (13 : Nat) ≠ 0 by decide), pi_5 (show (13 : Nat) ≠ 12 by decide), e12, ldI_n hn hn31, some_bind, ldI_n hc hc31, e46, ixr_n hc hc31, nI_clamp hc31, ldI_n hz hz31, h43, hg, ldL_n hs hs31, ixr_n hs hs31, nI_clamp hs31]
theorem take8 {cs : CS} {ms : MS} (h4 : RMd cs ms) (h5 : RCr cs ms) (h6 : RIt cs ms) {q a n c p k m s : Nat} {g : Int32} (hq : q ∉ cl cs) (hc : c < 40) (hlt : nI c < mi ms 9) (hA : CarAt cs ms c a) (hk : ma ms 49 c = nI k) (hk24 : k ≤ 24) (hp : p < k) (hn : n < 400) (e12 : mi ms 12 = nI n) (e1 : ci cs 1 = nI n) (e46 : ma ms 46 c = nI m) (hm : m < 8) (hs : s < 4) (h43 : ma ms 43 (24 * m + p) = nI s) (hg : ma ms 42 (24 * m + p) = g) : f_X8_take_28 (cnU cs q 1) (nI c) (nI p) a q = (f_X0_remember (tkC5 cs q a n c p s g) 3 (nI n)).bind fun z => some (.inl (nI n), z) := by
  obtain ⟨hI, m', k', hO⟩ := tk_new h5 h6 hq hc hlt hA hk hk24 hp hn e12
  have h4' : RMd (tkC cs q a n c p) (tkG ms n c p) := h4
  obtain ⟨s', hs', h43', mv⟩ := move_n (w0 := 3) (w := 0) h4' hO (by omega) upd_eq (by omega) (Or.inr (by omega))
  have em : m' = m := nI_inj (by have := hO.2.2.2.2.2.1; omega) (by omega) (hO.2.2.2.2.2.2.1.symm.trans e46)
  subst em
  have es : s' = s := nI_inj (by omega) (by omega) (h43'.symm.trans h43)
  subst es
  have hg' : ma (tkG ms n c p) 42 (24 * m' + p) = g := hg
  rw [hg', if_neg (by omega), if_pos rfl] at mv
  obtain ⟨x1, x2, x3, y0, -⟩ := id hA
  have haq : a ≠ q := fun z => hq (z ▸ x2)
  have hn31 : n < 2 ^ 31 := by omega
  have c1 : a ∈ cl (cnU cs q 1) ∧ ck (cnU cs q 1) a = 0 := ⟨List.mem_append_left _ x2, (ck_N_ne haq).trans x3⟩
  have c2 : q ∈ cl (cnU cs q 1) ∧ ck (cnU cs q 1) q = 1 := ⟨List.mem_append_right _ (List.mem_singleton.mpr rfl), ck_N⟩
  unfold f_X8_take_28 f_X5_init f_X8_addItem
  rw [gd_t c1, gd_t c2, gd_t c2, some_bind, ob_some]
  have ec1 : ∀ X, ci (cpU (cpU (cpU (cpU (cpU (cpU (cnU cs q 1) q 3 3) q 4 0) q 5 0) q 0 (nI c)) q 1 X) q 2 (nI p)) 1 = nI n := fun X => e1
  have ec2 : ∀ X, ci (cgU (cpU (cpU (cpU (cpU (cpU (cpU (cnU cs q 1) q 3 3) q 4 0) q 5 0) q 0 (nI c)) q 1 X) q 2 (nI p)) 9 n q) 1 = nI n := fun X => e1
  have c2' : ∀ X, q ∈ cl (cpU (cpU (cpU (cpU (cpU (cpU (cnU cs q 1) q 3 3) q 4 0) q 5 0) q 0 (nI c)) q 1 X) q 2 (nI p)) ∧ ck (cpU (cpU (cpU (cpU (cpU (cpU (cnU cs q 1) q 3 3) q 4 0) q 5 0) q 0 (nI c)) q 1 X) q 2 (nI p)) q = 1 := fun X => c2
  rw [ec1, if_neg (nI_pos hn31), if_pos (show nI n < (400 : Int32) from nI_lt (b := 400) hn (by omega)), gd_t (c2' _), ixr_n hn hn31, nI_clamp hn31, ec2, nI_1]
  rw [show f_X8_move (ciU (cgU (cpU (cpU (cpU (cpU (cpU (cpU (cnU cs q 1) q 3 3) q 4 0) q 5 0) q 0 (nI c)) q 1 (cp (cnU cs q 1) a 0)) q 2 (nI p)) 9 n q) 1 (nI (n + 1))) (some q) 0 = some (tkC4 cs q a n c p s' g) from mv, some_bind, b2_some]
  have e3 : ci (tkC4 cs q a n c p s' g) 1 = nI (n + 1) := rfl
  have c3 : a ∈ cl (tkC4 cs q a n c p s' g) ∧ ck (tkC4 cs q a n c p s' g) a = 0 := c1
  rw [gd_t c3, e3, nI_sub1 (by omega), Nat.add_sub_cancel]
  rfl
theorem and_le {o : Nat} (h : o < 2 ^ 24) (y : Int32) : ∃ o', o' ≤ o ∧ nI o &&& y = nI o' := by
  refine ⟨o &&& y.toBitVec.toNat, Nat.and_le_left, Int32.toBitVec_inj.mp ?_⟩
  show BitVec.ofNat 32 o &&& y.toBitVec = BitVec.ofNat 32 (o &&& y.toBitVec.toNat)
  rw [BitVec.ofNat_and, BitVec.ofNat_toNat, BitVec.setWidth_eq]
theorem moved_ne {cs : CS} {a w b k : Nat} {W : Nat → Int32} {x : Int32} (h : b ≠ a) : cp (moved cs a W w x) b k = cp cs b k := (cp_ne h).trans (cp_ne h)
theorem moved_lo {cs : CS} {a w k : Nat} {W : Nat → Int32} {x : Int32} (h3 : k ≠ 3) (h4 : k ≠ 4) : cp (moved cs a W w x) a k = cp cs a k := (cp_nf h4).trans (cp_nf h3)
theorem moved_3 {cs : CS} {a w : Nat} {W : Nat → Int32} {x : Int32} : cp (moved cs a W w x) a 3 = nI w := (cp_nf (by decide)).trans cp_eq
theorem moved_4 {cs : CS} {a w : Nat} {W : Nat → Int32} {x : Int32} : cp (moved cs a W w x) a 4 = ci cs 3 := cp_eq
theorem tk_RCr {cs : CS} {ms : MS} (hR : RR cs ms) {q a n c p k m s : Nat} {g : Int32} (hq : q ∉ cl cs) (hc : c < 40) (hlt : nI c < mi ms 9) (hA : CarAt cs ms c a) (hG : CRng ms c) (hk : ma ms 49 c = nI k) (hk24 : k ≤ 24) (hp : p < k) (hn : n < 400) (e12 : mi ms 12 = nI n) (h60 : mi ms 13 ≠ 60) (h54 : ma ms 54 c = 0) (hs : s < 4) : RCr (tkC5 cs q a n c p s g) (tkM ms n c p s g) := by
  obtain ⟨h1, h2, h3, h4, h5, h6, h7, h8, h9, ⟨dd, hd, d1, d2⟩, h11⟩ := hR
  obtain ⟨hI, m', k', hO⟩ := tk_new h5 h6 hq hc hlt hA hk hk24 hp hn e12
  obtain ⟨x1, x2, x3, y0, y1, y2, y3, y4, y5, y6, y7, y8⟩ := id hA
  have haq : a ≠ q := fun z => hq (z ▸ x2)
  have hA4 : ∀ kk, cp (tkC4 cs q a n c p s g) a kk = cp cs a kk := fun kk => (moved_ne haq).trans (tkC_ne haq)
  have cka : ck (tkC4 cs q a n c p s g) a = 0 := (ck_N_ne haq).trans x3
  have t0 : RCr (cnU cs q 1) ms := RCr_new h5 hq
  have t1 : RCr (cpU (cnU cs q 1) q 3 3) ms := RCr_cpI t0 ck_N
  have t2 : RCr (cpU (cpU (cnU cs q 1) q 3 3) q 4 0) ms := RCr_cpI t1 ck_N
  have t3 : RCr (cpU (cpU (cpU (cnU cs q 1) q 3 3) q 4 0) q 5 0) ms := RCr_cpI t2 ck_N
  have t4 : RCr (cpU (cpU (cpU (cpU (cnU cs q 1) q 3 3) q 4 0) q 5 0) q 0 (nI c)) ms := RCr_cpI t3 ck_N
  have t5 : RCr (cpU (cpU (cpU (cpU (cpU (cnU cs q 1) q 3 3) q 4 0) q 5 0) q 0 (nI c)) q 1 (cp (cnU cs q 1) a 0)) ms := RCr_cpI t4 ck_N
  have t6 : RCr (cpU (cpU (cpU (cpU (cpU (cpU (cnU cs q 1) q 3 3) q 4 0) q 5 0) q 0 (nI c)) q 1 (cp (cnU cs q 1) a 0)) q 2 (nI p)) ms := RCr_cpI t5 ck_N
  have t7 : RCr (tkC cs q a n c p) ms := t6
  have hA3 : CarAt (tkC cs q a n c p) ms c a := ⟨x1, List.mem_append_left _ x2, (ck_N_ne haq).trans x3, (tkC_ne haq).trans y0, (tkC_ne haq).trans y1, (tkC_ne haq).trans y2, (tkC_ne haq).trans y3, (tkC_ne haq).trans y4, (tkC_ne haq).trans y5, (tkC_ne haq).trans y6, (tkC_ne haq).trans y7, (tkC_ne haq).trans y8⟩
  obtain ⟨g1, g2, g3, m2, k2, k3, o, r1, r2, r3, r4, r5, r6, r7, r8, r9⟩ := id hG
  have ho24 : o < 2 ^ 24 := Nat.lt_of_lt_of_le r8 (Nat.pow_le_pow_right (by omega) (by omega))
  obtain ⟨o', ho', eo'⟩ := and_le ho24 ((1 : Int32) <<< (nI p &&& 31) ^^^ -1)
  have e50 : ∀ v, upd (ma ms 50) c v c = v := fun v => upd_eq
  refine RCr_set t7 hc hlt hA3 rfl rfl rfl rfl rfl (fun b' kk hb hb0 => ?_) rfl rfl rfl rfl rfl rfl (fun y hy => upd_ne hy) (fun _ _ => rfl) (fun _ _ => rfl) (fun _ _ => rfl) ⟨x1, List.mem_append_left _ x2, (ck_N_ne haq).trans x3, ?_, ?_, ?_, ?_, ?_, ?_, ?_, ?_, ?_⟩ ⟨g1, g2, Or.inl h54, m2, k2, k3, o', r1, r2, r3, r4, r5, r6, r7, Nat.lt_of_le_of_lt ho' r8, ?_⟩
  · have hne : b' ≠ q := fun z => by
      rw [z, show ck (tkC cs q a n c p) q = 1 from ck_N] at hb0
      exact absurd hb0 (by decide)
    exact (cp_ne hb).trans (moved_ne hne)
  · exact (cp_nf (by decide)).trans ((hA4 _).trans y0)
  · exact (cp_nf (by decide)).trans ((hA4 _).trans y1)
  · exact (cp_nf (by decide)).trans ((hA4 _).trans y2)
  · exact (cp_nf (by decide)).trans ((hA4 _).trans y3)
  · exact (cp_nf (by decide)).trans ((hA4 _).trans y4)
  · refine cp_eq.trans ?_
    rw [hA4, y5]
    exact (e50 _).symm
  · exact (cp_nf (by decide)).trans ((hA4 _).trans y6)
  · exact (cp_nf (by decide)).trans ((hA4 _).trans y7)
  · exact (cp_nf (by decide)).trans ((hA4 _).trans y8)
  · refine (e50 _).trans ?_
    rw [r9, eo']
theorem tk_RIt {cs : CS} {ms : MS} (hR : RR cs ms) {q a n c p k m s : Nat} {g : Int32} (hq : q ∉ cl cs) (hc : c < 40) (hlt : nI c < mi ms 9) (hA : CarAt cs ms c a) (hG : CRng ms c) (hk : ma ms 49 c = nI k) (hk24 : k ≤ 24) (hp : p < k) (hn : n < 400) (e12 : mi ms 12 = nI n) (h60 : mi ms 13 ≠ 60) (h54 : ma ms 54 c = 0) (hs : s < 4) : RIt (tkC5 cs q a n c p s g) (tkM ms n c p s g) := by
  obtain ⟨h1, h2, h3, h4, h5, h6, h7, h8, h9, ⟨dd, hd, d1, d2⟩, h11⟩ := hR
  obtain ⟨hI, m', k', hO⟩ := tk_new h5 h6 hq hc hlt hA hk hk24 hp hn e12
  obtain ⟨x1, x2, x3, y0, y1, y2, y3, y4, y5, y6, y7, y8⟩ := id hA
  have haq : a ≠ q := fun z => hq (z ▸ x2)
  have hA4 : ∀ kk, cp (tkC4 cs q a n c p s g) a kk = cp cs a kk := fun kk => (moved_ne haq).trans (tkC_ne haq)
  have cka : ck (tkC4 cs q a n c p s g) a = 0 := (ck_N_ne haq).trans x3
  have hnn : nI n < mi (tkG ms n c p) 12 := nI_lt (by omega) (by omega)
  have h3n : ma (tkG ms n c p) 65 n = 3 := upd_eq
  have h30 : ¬ ma (tkG ms n c p) 65 n = 0 := by rw [h3n]; decide
  have e12' : mi ms 12 + 1 = nI (n + 1) := by rw [e12, nI_1]
  have tt : RIt (tkC4 cs q a n c p s g) (tkM ms n c p s g) := by
    refine RIt_set (d := mi ms 10) (w := 0) hI hn hnn hO.1 (by omega) rfl e12' rfl rfl rfl (fun b k hb => ?_) ?_ ?_ ?_ ?_ ?_ rfl rfl rfl rfl rfl ?_ ?_ (fun j hj => ?_) (fun z => ?_) (fun n' hn' c1 c2 c3 => ?_)
    · exact moved_ne hb
    · exact moved_lo (by decide) (by decide)
    · exact moved_lo (by decide) (by decide)
    · exact moved_lo (by decide) (by decide)
    · exact moved_3
    · refine moved_4.trans ?_
      exact d1.trans d2.symm
    · exact (upd_upd (f := ma ms 65)).symm
    · exact (upd_upd (f := ma ms 66)).symm
    · exact upd_ne (f := ma ms 67) hj
    · omega
    · have c1' : ci cs 2 = nI n' := c1
      have c2' : mi ms 13 = nI n' := c2
      have : n' ≠ 60 := fun z => h60 (by rw [c2', z]; rfl)
      refine ⟨n' + 1, by omega, ?_, ?_, ?_⟩
      · show ci cs 2 + 1 = _
        rw [c1', nI_1]
      · show mi ms 13 + 1 = _
        rw [c2', nI_1]
      · rw [if_neg h30, if_pos rfl]
  exact RIt_cpU tt cka
theorem tk_RAc {cs : CS} {ms : MS} (hR : RR cs ms) {q a n c p k m s : Nat} {g : Int32} (hq : q ∉ cl cs) (hc : c < 40) (hlt : nI c < mi ms 9) (hA : CarAt cs ms c a) (hG : CRng ms c) (hk : ma ms 49 c = nI k) (hk24 : k ≤ 24) (hp : p < k) (hn : n < 400) (e12 : mi ms 12 = nI n) (h60 : mi ms 13 ≠ 60) (h54 : ma ms 54 c = 0) (hs : s < 4) : RAc (tkC5 cs q a n c p s g) (tkM ms n c p s g) := by
  obtain ⟨h1, h2, h3, h4, h5, h6, h7, h8, h9, ⟨dd, hd, d1, d2⟩, h11⟩ := hR
  obtain ⟨hI, m', k', hO⟩ := tk_new h5 h6 hq hc hlt hA hk hk24 hp hn e12
  obtain ⟨x1, x2, x3, y0, y1, y2, y3, y4, y5, y6, y7, y8⟩ := id hA
  have haq : a ≠ q := fun z => hq (z ▸ x2)
  have hA4 : ∀ kk, cp (tkC4 cs q a n c p s g) a kk = cp cs a kk := fun kk => (moved_ne haq).trans (tkC_ne haq)
  have cka : ck (tkC4 cs q a n c p s g) a = 0 := (ck_N_ne haq).trans x3
  obtain ⟨kk, hkk, i1, i2, i3, i4⟩ := h8
  refine ⟨kk, hkk, i1, i2, fun j hj => ?_, i4⟩
  obtain ⟨s1, s2⟩ := i3 j hj
  refine ⟨s1, ?_⟩
  rcases s2 with s2 | ⟨s2, s3, i, hi, s4, s5, s6, s7, cc, hcc, s8, s9⟩
  · exact Or.inl s2
  · have hin : i < n := by rw [e12] at s5; exact (nI_lt_iff (by omega) (by omega)).mp s5
    refine Or.inr ⟨s2, s3, i, hi, s4, ?_, ?_, ?_, cc, hcc, ?_, s9⟩
    · show nI i < mi ms 12 + 1
      rw [e12, nI_1]; exact nI_lt (by omega) (by omega)
    · exact s6.trans (upd_ne (f := ma ms 63) (by omega)).symm
    · exact (upd_ne (f := ma ms 65) (by omega)).trans s7
    · exact (upd_ne (f := ma ms 63) (by omega)).trans s8
theorem tk_RR {cs : CS} {ms : MS} (hR : RR cs ms) {q a n c p k m s : Nat} {g : Int32} (hq : q ∉ cl cs) (hc : c < 40) (hlt : nI c < mi ms 9) (hA : CarAt cs ms c a) (hG : CRng ms c) (hk : ma ms 49 c = nI k) (hk24 : k ≤ 24) (hp : p < k) (hn : n < 400) (e12 : mi ms 12 = nI n) (h60 : mi ms 13 ≠ 60) (h54 : ma ms 54 c = 0) (hs : s < 4) : RR (tkC5 cs q a n c p s g) (tkM ms n c p s g) := by
  have a1 := tk_RCr (m := m) (g := g) hR hq hc hlt hA hG hk hk24 hp hn e12 h60 h54 hs
  have a2 := tk_RIt (m := m) (g := g) hR hq hc hlt hA hG hk hk24 hp hn e12 h60 h54 hs
  have a3 := tk_RAc (m := m) (g := g) hR hq hc hlt hA hG hk hk24 hp hn e12 h60 h54 hs
  obtain ⟨h1, h2, h3, h4, h5, h6, h7, h8, h9, ⟨dd, hd, d1, d2⟩, h11⟩ := hR
  exact ⟨h1, h2, h3, h4, a1, a2, RWf_take h7, a3, h9, ⟨dd, hd, d1, d2⟩, h11⟩
theorem bxA_inl {α β σ τ : Type} {r : α} {s : σ} {k : α → σ → Option (((β ⊕ String) ⊕ τ) × σ)} : bxA (some (.inl r, s)) k = k r s := rfl
theorem P_take : H_take RR := by
  rintro cs ms v1 v2 hR
  have hX0 : RR cs (miU ms 0 0) := hR
  have hX1 : RR cs (miU ms 0 1) := hR
  obtain ⟨-, -, -, h4, h5, h6, -, h8, -⟩ := id hR
  obtain ⟨-, -, -, hMd, -, hIt, -⟩ := id hX0
  rcases part_cases (v1 := v1) (v2 := v2) h5 with ⟨c, a, p, k, hc, rfl, hc9, hA, hG, hk, hk24, hp, rfl, e1, e2⟩ | ⟨e1, e2⟩
  · obtain ⟨r, r1, r2⟩ := hind_eq (cs := cs) (ms := miU ms 0 0) hMd hIt hc hA hG hk hk24 hp
    have e8 : f_X8_take cs (nI c) (nI p) = if r = 0 then some (.inr (nI c, nI p, a), cs) else some (.inl (.inl (-r)), cs) := by
      unfold f_X8_take
      rw [e1, bxA_inl, ob_some, r1, some_bind]
    rcases hr_all r2 with ⟨rfl, n60, n400, hld⟩ | hneg
    · have h54 : ma ms 54 c = 0 := by
        have hld' : ldI (ma ms 54) 40 (nI c) = some 0 := hld
        rw [ldI_n hc (by omega)] at hld'
        exact Option.some.inj hld'
      obtain ⟨n, hn, i1, i2, -⟩ := id h6
      have hn400 : n < 400 := by
        rcases Nat.lt_or_ge n 400 with z | z
        · exact z
        · exfalso
          have : n = 400 := by omega
          subst this
          exact n400 i2
      obtain ⟨-, -, -, m, kk, k', o, hm, g1, hk0, hkk, hk', g2, g3, -⟩ := id hG
      obtain rfl : k = kk := nI_inj (by omega) (by omega) (hk.symm.trans g2)
      obtain ⟨-, -, -, -, -, ⟨s, hs, h43⟩, -⟩ := (fact_at h4 hm hk' g3 (p := p) (by omega)).2.2.2.2.2.2.2.2
      have t9 := take9 (g := ma ms 42 (24 * m + p)) hn400 i2 hc (by omega) hm g1 (by omega) h43 rfl e2 r2
      obtain ⟨ka, hka, -, j2, -⟩ := id h8
      obtain ⟨a1, a2, a3, z, oo, -, -, ha, -⟩ := acted_n (s := tkM ms n c p s (ma ms 42 (24 * m + p))) (v1 := 3) (v2 := nI c) (v3 := nI n) hka j2
      rw [ha, some_bind] at t9
      refine ⟨_, _, t9, _, e8.trans (if_pos rfl), fun r S9 hz => ?_, fun x0 x1 x2 S1 hz q hq => ?_⟩
      · cases hz
      · obtain ⟨hz1, rfl⟩ := Prod.mk.inj hz
        obtain ⟨rfl, hz2⟩ := Prod.mk.inj (Sum.inr.inj hz1)
        obtain ⟨rfl, rfl⟩ := Prod.mk.inj hz2
        have t8 := take8 (g := ma ms 42 (24 * m + p)) h4 h5 h6 hq hc hc9 hA hk hk24 hp hn400 i2 i1 g1 hm (by omega) h43 rfl
        have hRR := tk_RR (m := m) (g := ma ms 42 (24 * m + p)) hR hq hc hc9 hA hG hk hk24 hp hn400 i2 n60 h54 (show s < 4 by omega)
        obtain ⟨g1', g2', g3', g4, g5, g6, g7, g8, g9, g10, g11⟩ := hRR
        have nw : ∃ i, i < 400 ∧ nI n = nI i ∧ nI i < mi (tkM ms n c p s (ma ms 42 (24 * m + p))) 12 ∧ nI c = ma (tkM ms n c p s (ma ms 42 (24 * m + p))) 63 i ∧ ma (tkM ms n c p s (ma ms 42 (24 * m + p))) 65 i = 0 ∧ ∃ c', c' < 40 ∧ ma (tkM ms n c p s (ma ms 42 (24 * m + p))) 63 i = nI c' ∧ ma (tkM ms n c p s (ma ms 42 (24 * m + p))) 54 c' = 0 := by
          refine ⟨n, hn400, rfl, ?_, (upd_eq (f := ma ms 63)).symm, upd_eq (f := ma ms 65), c, hc, upd_eq (f := ma ms 63), h54⟩
          show nI n < mi ms 12 + 1
          rw [i2, nI_1]; exact nI_lt (by omega) (by omega)
        have nd : ∀ j k, mi (tkM ms n c p s (ma ms 42 (24 * m + p))) 11 = nI k → k ≤ 10 → j < k → ma (tkM ms n c p s (ma ms 42 (24 * m + p))) 60 j = 3 → ma (tkM ms n c p s (ma ms 42 (24 * m + p))) 62 j ≠ nI n := by
          intro j k1 w1 w2 w3 w4 w5
          obtain ⟨k2, hk2, -, l2, l3, -⟩ := id h8
          obtain rfl : k1 = k2 := nI_inj (by omega) (by omega) ((show mi ms 11 = nI k1 from w1).symm.trans l2)
          have w4' : ma ms 60 j = 3 := w4
          obtain ⟨-, q2⟩ := l3 j w3
          rcases q2 with ⟨q2 | q2, -⟩ | ⟨-, -, i, hi, q4, q5, -⟩
          · rw [w4'] at q2; exact absurd q2 (by decide)
          · rw [w4'] at q2; exact absurd q2 (by decide)
          · have w5' : ma ms 62 j = nI n := w5
            have : i = n := nI_inj (by omega) (by omega) (q4.symm.trans w5')
            subst this
            rw [i2] at q5
            have := (nI_lt_iff (by omega) (by omega)).mp q5
            omega
        obtain ⟨b1, b2', b3, b4, b5, nn, s1, s2, s3⟩ := RAc_add g8 (v1 := 3) (v := nI n) (v2 := nI c) (v3 := nI n) (Or.inr ⟨rfl, rfl, nw, nd⟩)
        rw [s1, some_bind] at t8
        have hX := Option.some.inj (ha.symm.trans s2)
        refine ⟨_, _, t8, ?_⟩
        rw [hX]
        exact agr_l rfl ⟨g1', g2', g3', g4, g5, g6, g7, s3, g9, g10, g11⟩
    · have hr0 : ¬ r = 0 := fun z => hneg (by rw [z]; decide)
      have t9 : f_X9_take ms (nI c) (nI p) = some (-r, miU ms 0 0) := by
        unfold f_X9_take
        rw [e2, b2_some, if_neg one_ne, r2, some_bind, if_neg hneg]
      refine ⟨_, _, t9, _, e8.trans (if_neg hr0), fun r S9 hz => ?_, fun x0 x1 x2 S1 hz q hq => ?_⟩
      · cases hz
        exact agr_l rfl hX0
      · cases hz
  · have t9 : f_X9_take ms v1 v2 = some (0, miU ms 0 1) := by
      unfold f_X9_take
      rw [e2, b2_some, if_pos rfl]
    have e8 : f_X8_take cs v1 v2 = some (.inl (.inr "java/util/NoSuchElementException"), cs) := by
      unfold f_X8_take
      rw [e1]
      rfl
    refine ⟨_, _, t9, _, e8, fun r S9 hz => ?_, fun x0 x1 x2 S1 hz q hq => ?_⟩
    · cases hz
      exact agr_r rfl (by simp) hX1
    · cases hz

/-! ===== fit: unit, all, any, on both sides ===== -/
def StC (S : Nat → Int32) (s : List (Nat × Nat × Nat)) : Prop := ∀ j q, s[j]? = some q → S j = stp q
theorem StC_app {S : Nat → Int32} {s : List (Nat × Nat × Nat)} {t : Nat × Nat × Nat} (h : StC S s) : StC (upd S s.length (stp t)) (s ++ [t]) := by
  intro j q hq
  rcases app_get hq with ⟨a, b⟩ | ⟨a, b⟩
  · rw [upd_ne (by omega)]; exact h j q b
  · rw [a, b, upd_eq]
def Vld (u : List (Nat × Nat × Nat)) : Prop := ∀ q, q ∈ u → q.1 ≤ 5 ∧ q.2.1 < 16384 ∧ q.2.2 < 16384
theorem Vld_app {u v : List (Nat × Nat × Nat)} (h1 : Vld u) (h2 : Vld v) : Vld (u ++ v) := fun q hq => (List.mem_append.mp hq).elim (h1 q) (h2 q)
theorem Vld_one {t : Nat × Nat × Nat} (h : t.1 ≤ 5 ∧ t.2.1 < 16384 ∧ t.2.2 < 16384) : Vld [t] := fun q hq => by
  rw [List.mem_singleton.mp hq]; exact h
def Dep (d : Nat) (u : List (Nat × Nat × Nat)) : Prop := ∀ w, dep d (u ++ w) = dep (d + 1) w
theorem Dep_test {d : Nat} {t : Nat × Nat × Nat} (hd : d < 44) (ht : t.1 ≤ 2) : Dep d [t] := fun w => by
  show dep d (t :: w) = _
  rw [dep, if_pos ht, if_pos hd]
theorem Dep_not {d : Nat} {u : List (Nat × Nat × Nat)} (h : Dep d u) : Dep d (u ++ [(3, 0, 0)]) := fun w => by
  rw [List.append_assoc, h]
  show dep (d + 1) ((3, 0, 0) :: w) = _
  rw [dep, if_neg (by decide), if_pos rfl, if_pos (by omega)]
theorem Dep_two {d x : Nat} {u v : List (Nat × Nat × Nat)} (hx : x = 4 ∨ x = 5) (h1 : Dep d u) (h2 : Dep (d + 1) v) : Dep d (u ++ v ++ [(x, 0, 0)]) := fun w => by
  rw [List.append_assoc, List.append_assoc, h1, h2]
  show dep (d + 1 + 1) ((x, 0, 0) :: w) = _
  rw [dep, if_neg (by show ¬ x ≤ 2; omega), if_neg (by show ¬ x = 3; omega), if_pos (by omega)]
  rfl
/-- both went wrong at e -/
def BadO (b : CS) (m : MS) (T : Nat → Nat) (L f : Nat) (cls : Option CS) (ref : Option (Int32 × MS)) : Prop := ∃ (e : Nat) (cs' : CS) (ms' : MS), e ≤ L ∧ cls = some cs' ∧ Dm b T L cs' e ∧ ref = some (-2 - nI e, ms') ∧ ∃ p e c o X, ms' = mK m p e c o X ∧ Frm m f X
theorem BadO_bind {b : CS} {m : MS} {T : Nat → Nat} {L f : Nat} {cls : Option CS} {ref : Option (Int32 × MS)} (h : BadO b m T L f cls ref) {g : CS → Option CS} (hg : ∀ cs e, e ≤ L → Dm b T L cs e → ∃ cs', g cs = some cs' ∧ Dm b T L cs' e) : BadO b m T L f (cls.bind g) ref := by
  obtain ⟨e, cs', ms', a1, a2, a3, a4, a5⟩ := h
  obtain ⟨cs2, b1, b2⟩ := hg cs' e a1 a3
  exact ⟨e, cs2, ms', a1, by rw [a2, some_bind, b1], b2, a4, a5⟩
theorem Dm_add {b : CS} {T : Nat → Nat} {L : Nat} {cs : CS} {e : Nat} (h : Dm b T L cs e) (v1 v2 v3 : Int32) : ∃ cs', f_X3_add cs v1 v2 v3 = some cs' ∧ Dm b T L cs' e := by
  rcases h with ⟨z, S, hz, rfl⟩ | ⟨z, S, hz, rfl, h1, h2⟩
  · obtain ⟨z', S', hz', ea⟩ := c_add_any (b := b) (p := e) (z := z) (w := 1) (v1 := v1) (v2 := v2) (v3 := v3) (S := S) hz
    exact ⟨_, ea, Or.inl ⟨z', S', hz', rfl⟩⟩
  · obtain ⟨z', S', hz', ea⟩ := c_add_any (b := b) (p := e) (z := z) (w := 0) (v1 := v1) (v2 := v2) (v3 := v3) (S := S) hz
    exact ⟨_, ea, Or.inr ⟨z', S', hz', rfl, h1, h2⟩⟩
theorem Dm_comes {b : CS} {m : MS} {T : Nat → Nat} {L f : Nat} (hT : Tap b m T L f) {cs : CS} {e : Nat} (h : Dm b T L cs e) {x : Nat} (hx : x < 256) (hd : ¬ isD x) : f_X3_comes cs (nI x) = some (0, cs) := by
  rcases h with ⟨z, S, hz, rfl⟩ | ⟨z, S, hz, rfl, h1, h2⟩
  · exact c_comes1 hx
  · have hs : Sk T L e e := Sk_here (by omega) (fun y => by have := h2.1; omega)
    exact (c_comes hT hs hx).trans (if_neg (show ¬ (e < L ∧ T e = x) from fun y => hd (y.2 ▸ h2)))
theorem Dm_must {b : CS} {m : MS} {T : Nat → Nat} {L f : Nat} (hT : Tap b m T L f) {cs : CS} {e : Nat} (h : Dm b T L cs e) {x : Nat} (hx : x < 256) (hd : ¬ isD x) : ∃ cs', f_X3_must cs (nI x) = some cs' ∧ Dm b T L cs' e := by
  rcases h with ⟨z, S, hz, rfl⟩ | ⟨z, S, hz, rfl, h1, h2⟩
  · exact ⟨_, c_must1 hx, Or.inl ⟨z, S, hz, rfl⟩⟩
  · have hs : Sk T L e e := Sk_here (by omega) (fun y => by have := h2.1; omega)
    exact ⟨_, (c_must hT hs hx).trans (if_neg (show ¬ (e < L ∧ T e = x) from fun y => hd (y.2 ▸ h2))), Or.inl ⟨z, S, hz, rfl⟩⟩
theorem Dm_all {b : CS} {m : MS} {T : Nat → Nat} {L f : Nat} (hT : Tap b m T L f) {cs : CS} {e : Nat} (h : Dm b T L cs e) (u : CS → Int32 → Option CS) (n : Nat) (v1 v2 : Int32) : f_X3_readAll_7 u (n + 1) cs v1 v2 = some cs := by
  rw [f_X3_readAll_7, show f_X3_comes cs 38 = _ from Dm_comes hT h (x := 38) (by omega) (by unfold isD; omega), b2_some, if_pos rfl]
  split <;> rfl
theorem Dm_any {b : CS} {m : MS} {T : Nat → Nat} {L f : Nat} (hT : Tap b m T L f) {cs : CS} {e : Nat} (h : Dm b T L cs e) (u : CS → Int32 → Option CS) (n : Nat) (v1 v2 : Int32) : f_X3_readAny_7 u (n + 1) cs v1 v2 = some cs := by
  rw [f_X3_readAny_7, show f_X3_comes cs 124 = _ from Dm_comes hT h (x := 124) (by omega) (by unfold isD; omega), b2_some, if_pos rfl]
  split <;> rfl
def UnitOut (b : CS) (m : MS) (T : Nat → Nat) (L f : Nat) (cls : Option CS) (ref : Option (Int32 × MS)) (p z : Nat) (s r : List (Nat × Nat × Nat)) (V : List Nat) (j d opn : Nat) : Prop :=
  (∃ (p' : Nat) (u : List (Nat × Nat × Nat)) (S' : Nat → Int32) (X' : RW) (k' : Nat), p < p' ∧ p' ≤ L ∧ cls = some (cK b p' (z + u.length) 0 S') ∧ StC S' (s ++ u) ∧ u.length ≤ p' - p ∧ Vld u ∧ Dep d u ∧ L + 3 ≤ p' + k' ∧ ref = f_X9_fit_76 k' (mK m p' (-1) V.length (opn - j) X') 0 1 ∧ Em m f X' (r ++ u ++ sN j) V) ∨ BadO b m T L f cls ref
def AllOut (b : CS) (m : MS) (T : Nat → Nat) (L f : Nat) (cls : Option CS) (ref : Option (Int32 × MS)) (p z : Nat) (s r : List (Nat × Nat × Nat)) (W : List Nat) (d opn : Nat) : Prop :=
  (∃ (p' q : Nat) (u v : List (Nat × Nat × Nat)) (a : Bool) (S' : Nat → Int32) (X' : RW) (k' : Nat), p < p' ∧ Sk T L p' q ∧ ¬ (q < L ∧ T q = 38) ∧ cls = some (cK b q (z + u.length) 0 S') ∧ StC S' (s ++ u) ∧ u.length ≤ p' - p ∧ Vld u ∧ Dep d u ∧ L + 3 ≤ p' + k' ∧ ref = f_X9_fit_76 k' (mK m p' (-1) (W ++ pA a).length opn X') 0 1 ∧ u = v ++ sA a ∧ Em m f X' (r ++ v) (W ++ pA a)) ∨ BadO b m T L f cls ref
def AnyOut (b : CS) (m : MS) (T : Nat → Nat) (L f : Nat) (cls : Option CS) (ref : Option (Int32 × MS)) (p z : Nat) (s r : List (Nat × Nat × Nat)) (V : List Nat) (d opn : Nat) : Prop :=
  (∃ (p' q : Nat) (u v : List (Nat × Nat × Nat)) (a c : Bool) (S' : Nat → Int32) (X' : RW) (k' : Nat), p < p' ∧ Sk T L p' q ∧ ¬ (q < L ∧ T q = 38) ∧ ¬ (q < L ∧ T q = 124) ∧ cls = some (cK b q (z + u.length) 0 S') ∧ StC S' (s ++ u) ∧ u.length ≤ p' - p ∧ Vld u ∧ Dep d u ∧ L + 3 ≤ p' + k' ∧ ref = f_X9_fit_76 k' (mK m p' (-1) (V ++ pO c ++ pA a).length opn X') 0 1 ∧ u = v ++ sA a ++ sO c ∧ Em m f X' (r ++ v) (V ++ pO c ++ pA a)) ∨ BadO b m T L f cls ref
def UnitOK (b : CS) (m : MS) (T : Nat → Nat) (L f : Nat) (u : CS → Int32 → Option CS) (opn : Nat) : Prop := ∀ (p z : Nat) (S : Nat → Int32) (X : RW) (s r : List (Nat × Nat × Nat)) (V : List Nat) (j k d : Nat), p ≤ L → StC S s → z = s.length → z ≤ p → Em m f X r (V ++ List.replicate j 3) → Tp (fun x => x ≠ 3 ∧ x < 10) V → r.length + V.length + j ≤ p → j ≤ opn → L + 3 ≤ p + k → d ≤ 2 * opn + 2 → UnitOut b m T L f (u (cK b p z 0 S) (nI opn)) (f_X9_fit_76 k (mK m p (-1) (V.length + j) opn X) 1 1) p z s r V j d opn
theorem all_loop {b : CS} {m : MS} {T : Nat → Nat} {L f : Nat} (hT : Tap b m T L f) {u : CS → Int32 → Option CS} {opn : Nat} (hop : opn ≤ 20) (hU : UnitOK b m T L f u opn) {p0 z d : Nat} {s r : List (Nat × Nat × Nat)} {W : List Nat} (hW : Tp (fun x => x < 10 ∧ x ≠ 3 ∧ x ≠ 4) W) (hd : d ≤ 2 * opn + 1) (hz : z = s.length) (hzp : z ≤ p0) (hrp : r.length + W.length ≤ p0) : ∀ (n cnt p1 : Nat) (u1 v1 : List (Nat × Nat × Nat)) (a : Bool) (S1 : Nat → Int32) (X1 : RW) (k1 : Nat), p0 < p1 → p1 ≤ L → cnt + 1 ≤ p1 → L + 1 ≤ p1 + n → StC S1 (s ++ u1) → u1.length ≤ p1 - p0 → Vld u1 → Dep d u1 → L + 3 ≤ p1 + k1 → u1 = v1 ++ sA a → Em m f X1 (r ++ v1) (W ++ pA a) → AllOut b m T L f (f_X3_readAll_7 u n (cK b p1 (z + u1.length) 0 S1) (nI opn) (nI cnt)) (f_X9_fit_76 k1 (mK m p1 (-1) (W ++ pA a).length opn X1) 0 1) p0 z s r W d opn := by
  intro n
  induction n with
  | zero => intro cnt p1 u1 v1 a S1 X1 k1 h1 h2 h3 h4; omega
  | succ n ih =>
    intro cnt p1 u1 v1 a S1 X1 k1 h1 h2 h3 h4 hS hl hV hD hk hu hE
    have hL := hT.1
    obtain ⟨q, hs⟩ := Sk_ex (T := T) (L := L) L p1 h2 (by omega)
    have hq1 := hs.1
    have hlv : v1.length ≤ u1.length := by rw [hu, List.length_append]; omega
    obtain ⟨k, rfl⟩ : ∃ k, k1 = k + 1 := ⟨k1 - 1, by omega⟩
    rw [f_X3_readAll_7, if_neg (show ¬ (100 : Int32) ≤ nI cnt from nI_ge (b := 100) (by omega) (by omega)), show f_X3_comes (cK b p1 (z + u1.length) 0 S1) 38 = _ from c_comes hT hs (x := 38) (by omega)]
    by_cases hq : q < L ∧ T q = 38
    · rw [if_pos hq, b2_some, if_neg one_ne]
      obtain ⟨X2, e1, e2⟩ := rd_and hT (k := k) (o := opn) hs hq.1 hq.2 hE (Tp_imp (fun x h => ⟨h.1, h.2.2⟩) hW) (by omega) (by rw [List.length_append]; omega)
      rw [List.append_assoc, ← hu] at e2
      have hlW : (W ++ [4]).length = W.length + 1 := by rw [List.length_append]; rfl
      rw [e1, ← hlW]
      have out := hU (q + 1) (z + u1.length) S1 X2 (s ++ u1) (r ++ u1) (W ++ [4]) 0 k (d + 1) (by omega) hS (by rw [List.length_append, hz]) (by omega) (by rw [List.replicate_zero, List.append_nil]; exact e2) (Or.inr ⟨W, 4, rfl, by decide⟩) (by rw [List.length_append, hlW]; omega) (by omega) (by omega) (by omega)
      have hz0 : (W ++ [4]).length + 0 = (W ++ [4]).length := rfl
      rw [hz0] at out
      rcases out with ⟨p2, u2, S2, X3, k2, a1, a2, a3, a4, a5, a6, a7, a8, a9, a10⟩ | bad
      · have ea := c_add (b := b) (p := p2) (z := z + u1.length + u2.length) (a := 4) (x := 0) (y := 0) (S := S2) (by omega) (by omega) (by omega)
        rw [a3, some_bind, show f_X3_add (cK b p2 (z + u1.length + u2.length) 0 S2) 4 0 0 = _ from ea, some_bind, nI_1, a9, Nat.sub_zero]
        have hlen : (u1 ++ u2 ++ [(4, 0, 0)]).length = u1.length + u2.length + 1 := by rw [List.length_append, List.length_append]; rfl
        have hl2 : (s ++ u1 ++ u2).length = z + u1.length + u2.length := by rw [List.length_append, List.length_append, hz]
        have hS3 : StC (upd S2 (z + u1.length + u2.length) (stp (4, 0, 0))) (s ++ (u1 ++ u2 ++ [(4, 0, 0)])) := by
          have := StC_app (t := (4, 0, 0)) a4
          rw [hl2] at this
          simpa only [List.append_assoc] using this
        have fin := ih (cnt + 1) p2 (u1 ++ u2 ++ [(4, 0, 0)]) (u1 ++ u2) true (upd S2 (z + u1.length + u2.length) (stp (4, 0, 0))) X3 k2 (by omega) a2 (by omega) (by omega) hS3 (by rw [hlen]; omega) (Vld_app (Vld_app hV a6) (Vld_one ⟨by decide, by decide, by decide⟩)) (Dep_two (Or.inl rfl) hD a7) a8 rfl (by
          have e := a10
          unfold sN at e
          rw [List.replicate_zero, List.append_nil, List.append_assoc] at e
          exact e)
        rw [hlen] at fin
        rw [show z + u1.length + u2.length + 1 = z + (u1.length + u2.length + 1) by omega]
        exact fin
      · right
        refine BadO_bind bad (fun cs e he hD => ?_)
        obtain ⟨cs2, x1, x2⟩ := Dm_add hD 4 0 0
        obtain ⟨n', rfl⟩ : ∃ n', n = n' + 1 := ⟨n - 1, by omega⟩
        exact ⟨cs2, by rw [x1, some_bind, Dm_all hT x2], x2⟩
    · rw [if_neg hq, b2_some, if_pos rfl]
      exact Or.inl ⟨p1, q, u1, v1, a, S1, X1, k + 1, h1, hs, hq, rfl, hS, hl, hV, hD, hk, rfl, hu, hE⟩
theorem all_n {b : CS} {m : MS} {T : Nat → Nat} {L f : Nat} (hT : Tap b m T L f) {u : CS → Int32 → Option CS} {opn : Nat} (hop : opn ≤ 20) (hU : UnitOK b m T L f u opn) (p z : Nat) (S : Nat → Int32) (X : RW) (s r : List (Nat × Nat × Nat)) (W : List Nat) (k d : Nat) (hp : p ≤ L) (hS : StC S s) (hz : z = s.length) (hzp : z ≤ p) (hE : Em m f X r W) (hW : Tp (fun x => x < 10 ∧ x ≠ 3 ∧ x ≠ 4) W) (hr : r.length + W.length ≤ p) (hk : L + 3 ≤ p + k) (hd : d ≤ 2 * opn + 1) : AllOut b m T L f (f_X3_readAll u (cK b p z 0 S) (nI opn)) (f_X9_fit_76 k (mK m p (-1) W.length opn X) 1 1) p z s r W d opn := by
  have hL := hT.1
  have out := hU p z S X s r W 0 k d hp hS hz hzp (by rw [List.replicate_zero, List.append_nil]; exact hE) (Tp_imp (fun x h => ⟨h.2.1, h.1⟩) hW) (by omega) (by omega) hk (by omega)
  unfold f_X3_readAll
  have hz0 : W.length + 0 = W.length := rfl
  rw [hz0] at out
  rcases out with ⟨p1, u1, S1, X1, k1, a1, a2, a3, a4, a5, a6, a7, a8, a9, a10⟩ | bad
  · rw [a3, some_bind, a9, Nat.sub_zero]
    have e : W ++ pA false = W := List.append_nil W
    have fin := all_loop hT hop hU hW hd hz hzp hr 1000 0 p1 u1 u1 false S1 X1 k1 a1 a2 (by omega) (by omega) a4 a5 a6 a7 a8 (List.append_nil u1).symm (by
      rw [e]
      have x := a10
      unfold sN at x
      rw [List.replicate_zero, List.append_nil] at x
      exact x)
    rw [e] at fin
    exact fin
  · exact Or.inr (BadO_bind bad (fun cs e he hD => ⟨cs, Dm_all hT hD u 999 _ _, hD⟩))
theorem any_loop {b : CS} {m : MS} {T : Nat → Nat} {L f : Nat} (hT : Tap b m T L f) {u : CS → Int32 → Option CS} {opn : Nat} (hop : opn ≤ 20) (hU : UnitOK b m T L f u opn) {p0 z d : Nat} {s r : List (Nat × Nat × Nat)} {V : List Nat} (hVp : Tp (fun x => x < 10 ∧ x ≠ 3 ∧ x ≠ 4 ∧ x ≠ 5) V) (hd : d ≤ 2 * opn) (hz : z = s.length) (hzp : z ≤ p0) (hrp : r.length + V.length ≤ p0) : ∀ (n cnt p1 q1 : Nat) (u1 v1 : List (Nat × Nat × Nat)) (a c : Bool) (S1 : Nat → Int32) (X1 : RW) (k1 : Nat), p0 < p1 → Sk T L p1 q1 → ¬ (q1 < L ∧ T q1 = 38) → cnt + 1 ≤ p1 → L + 1 ≤ p1 + n → StC S1 (s ++ u1) → u1.length ≤ p1 - p0 → Vld u1 → Dep d u1 → L + 3 ≤ p1 + k1 → u1 = v1 ++ sA a ++ sO c → Em m f X1 (r ++ v1) (V ++ pO c ++ pA a) → AnyOut b m T L f (f_X3_readAny_7 u n (cK b q1 (z + u1.length) 0 S1) (nI opn) (nI cnt)) (f_X9_fit_76 k1 (mK m p1 (-1) (V ++ pO c ++ pA a).length opn X1) 0 1) p0 z s r V d opn := by
  intro n
  induction n with
  | zero => intro cnt p1 q1 u1 v1 a c S1 X1 k1 h1 h2 h3 h4 h5; have := h2.1; have := h2.2.1; omega
  | succ n ih =>
    intro cnt p1 q1 u1 v1 a c S1 X1 k1 h1 hs n38 h3 h4 hS hl hV hD hk hu hE
    have hL := hT.1
    have hq1 := hs.1
    have hqL := hs.2.1
    have hlv : v1.length + (sA a).length + (sO c).length = u1.length := by rw [hu, List.length_append, List.length_append]
    obtain ⟨k, rfl⟩ : ∃ k, k1 = k + 1 := ⟨k1 - 1, by omega⟩
    rw [f_X3_readAny_7, if_neg (show ¬ (100 : Int32) ≤ nI cnt from nI_ge (b := 100) (by omega) (by omega)), show f_X3_comes (cK b q1 (z + u1.length) 0 S1) 124 = _ from c_comes hT (Sk_self hs) (x := 124) (by omega)]
    by_cases hq : q1 < L ∧ T q1 = 124
    · rw [if_pos hq, b2_some, if_neg one_ne]
      obtain ⟨X2, e1, e2⟩ := rd_or hT (k := k) (o := opn) hs hq.1 hq.2 hE (Tp_imp (fun x h => ⟨h.1, h.2.2⟩) hVp) (by omega) (by rw [List.length_append]; omega)
      rw [List.append_assoc, List.append_assoc, ← List.append_assoc v1, ← hu] at e2
      have hlW : (V ++ [5]).length = V.length + 1 := by rw [List.length_append]; rfl
      rw [e1, ← hlW]
      have out := all_n hT hop hU (q1 + 1) (z + u1.length) S1 X2 (s ++ u1) (r ++ u1) (V ++ [5]) k (d + 1) (by omega) hS (by rw [List.length_append, hz]) (by omega) e2 (Or.inr ⟨V, 5, rfl, by decide⟩) (by rw [List.length_append, hlW]; omega) (by omega) (by omega)
      rcases out with ⟨p2, q2, u2, v2, a2, S2, X3, k2, b1, b2', b3, b4, b5, b6, b7, b8, b9, b10, b11, b12⟩ | bad
      · have hp2L := b2'.2.1
        have hp2q := b2'.1
        have ea := c_add (b := b) (p := q2) (z := z + u1.length + u2.length) (a := 5) (x := 0) (y := 0) (S := S2) (by omega) (by omega) (by omega)
        rw [b4, some_bind, show f_X3_add (cK b q2 (z + u1.length + u2.length) 0 S2) 5 0 0 = _ from ea, some_bind, nI_1, b10]
        have hlen : (u1 ++ u2 ++ [(5, 0, 0)]).length = u1.length + u2.length + 1 := by rw [List.length_append, List.length_append]; rfl
        have hl2 : (s ++ u1 ++ u2).length = z + u1.length + u2.length := by rw [List.length_append, List.length_append, hz]
        have hS3 : StC (upd S2 (z + u1.length + u2.length) (stp (5, 0, 0))) (s ++ (u1 ++ u2 ++ [(5, 0, 0)])) := by
          have := StC_app (t := (5, 0, 0)) b5
          rw [hl2] at this
          simpa only [List.append_assoc] using this
        have fin := ih (cnt + 1) p2 q2 (u1 ++ u2 ++ [(5, 0, 0)]) (u1 ++ v2) a2 true (upd S2 (z + u1.length + u2.length) (stp (5, 0, 0))) X3 k2 (by omega) b2' b3 (by omega) (by omega) hS3 (by rw [hlen]; omega) (Vld_app (Vld_app hV b7) (Vld_one ⟨by decide, by decide, by decide⟩)) (Dep_two (Or.inr rfl) hD b8) b9 (by
          rw [b11, List.append_assoc, List.append_assoc, List.append_assoc, List.append_assoc]; rfl) (by
          rw [← List.append_assoc]
          exact b12)
        rw [hlen] at fin
        rw [show z + u1.length + u2.length + 1 = z + (u1.length + u2.length + 1) by omega]
        exact fin
      · right
        refine BadO_bind bad (fun cs e he hD => ?_)
        obtain ⟨cs2, x1, x2⟩ := Dm_add hD 5 0 0
        obtain ⟨n', rfl⟩ : ∃ n', n = n' + 1 := ⟨n - 1, by omega⟩
        exact ⟨cs2, by rw [x1, some_bind, Dm_any hT x2], x2⟩
    · rw [if_neg hq, b2_some, if_pos rfl]
      exact Or.inl ⟨p1, q1, u1, v1, a, c, S1, X1, k + 1, h1, hs, n38, hq, rfl, hS, hl, hV, hD, hk, rfl, hu, hE⟩
theorem any_n {b : CS} {m : MS} {T : Nat → Nat} {L f : Nat} (hT : Tap b m T L f) {u : CS → Int32 → Option CS} {opn : Nat} (hop : opn ≤ 20) (hU : UnitOK b m T L f u opn) (p z : Nat) (S : Nat → Int32) (X : RW) (s r : List (Nat × Nat × Nat)) (V : List Nat) (k d : Nat) (hp : p ≤ L) (hS : StC S s) (hz : z = s.length) (hzp : z ≤ p) (hE : Em m f X r V) (hV : Tp (fun x => x < 10 ∧ x ≠ 3 ∧ x ≠ 4 ∧ x ≠ 5) V) (hr : r.length + V.length ≤ p) (hk : L + 3 ≤ p + k) (hd : d ≤ 2 * opn) : AnyOut b m T L f (f_X3_readAny u (cK b p z 0 S) (nI opn)) (f_X9_fit_76 k (mK m p (-1) V.length opn X) 1 1) p z s r V d opn := by
  have hL := hT.1
  have out := all_n hT hop hU p z S X s r V k d hp hS hz hzp hE (Tp_imp (fun x h => ⟨h.1, h.2.1, h.2.2.1⟩) hV) hr hk (by omega)
  unfold f_X3_readAny
  rcases out with ⟨p1, q1, u1, v1, a, S1, X1, k1, b1, b2', b3, b4, b5, b6, b7, b8, b9, b10, b11, b12⟩ | bad
  · rw [b4, some_bind, b10]
    have e : V ++ pO false = V := List.append_nil V
    have hq := b2'.1
    have hqL := b2'.2.1
    have fin := any_loop hT hop hU hV hd hz hzp hr 1000 0 p1 q1 u1 v1 a false S1 X1 k1 b1 b2' b3 (by omega) (by omega) b5 b6 b7 b8 b9 (b11.trans (List.append_nil _).symm) (by rw [e]; exact b12)
    rw [e] at fin
    exact fin
  · exact Or.inr (BadO_bind bad (fun cs e he hD => ⟨cs, Dm_any hT hD u 999 _ _, hD⟩))

/-! ===== fit: the states of the two readers ===== -/
def cK (b : CS) (p z : Nat) (w : Int32) (S : Nat → Int32) : CS := (fun k => if k = 8 then nI p else if k = 9 then nI z else if k = 10 then w else b.1 k, b.2.1, fun k => if k = 19 then S else b.2.2.1 k, b.2.2.2)
abbrev RW : Type := (Nat → Int32) × (Nat → Int32) × (Nat → Int32) × (Nat → Int32) × (Nat → Int32)
def mK (m : MS) (p : Nat) (e : Int32) (c o : Nat) (X : RW) : MS := (fun k => if k = 5 then nI p else if k = 6 then e else if k = 7 then nI c else if k = 8 then nI o else m.1 k, m.2.1, fun k => if k = 31 then X.1 else if k = 32 then X.2.1 else if k = 33 then X.2.2.1 else if k = 34 then X.2.2.2.1 else if k = 35 then X.2.2.2.2 else m.2.2.1 k, m.2.2.2)
theorem cK_8 {b : CS} {p z : Nat} {w : Int32} {S : Nat → Int32} {p2 : Nat} : ciU (cK b p z w S) 8 (nI p2) = cK b p2 z w S := by
  show (va_up _ 8 _, _) = _
  unfold cK
  congr 1
  funext j
  unfold va_up
  by_cases h : j = 8
  · subst h; rfl
  · simp only [if_neg h]
theorem cK_9 {b : CS} {p z : Nat} {w : Int32} {S : Nat → Int32} {z2 : Nat} : ciU (cK b p z w S) 9 (nI z2) = cK b p z2 w S := by
  show (va_up _ 9 _, _) = _
  unfold cK
  congr 1
  funext j
  unfold va_up
  by_cases h : j = 9
  · subst h; rfl
  · simp only [if_neg h]
theorem cK_10 {b : CS} {p z : Nat} {w : Int32} {S : Nat → Int32} {w2 : Int32} : ciU (cK b p z w S) 10 (w2) = cK b p z w2 S := by
  show (va_up _ 10 _, _) = _
  unfold cK
  congr 1
  funext j
  unfold va_up
  by_cases h : j = 10
  · subst h; rfl
  · simp only [if_neg h]
theorem cK_19 {b : CS} {p z : Nat} {w : Int32} {S : Nat → Int32} {i : Nat} {v : Int32} : caU (cK b p z w S) 19 i v = cK b p z w (upd S i v) := by
  show (_, _, va_up (fun k => if k = 19 then S else b.2.2.1 k) 19 (upd S i v), _) = _
  unfold cK
  congr 3
  funext j
  unfold va_up
  by_cases h : j = 19
  · subst h; rfl
  · simp only [if_neg h]
theorem mK_5 {m : MS} {p c o : Nat} {e : Int32} {X : RW} {p2 : Nat} : miU (mK m p e c o X) 5 (nI p2) = mK m p2 e c o X := by
  show (va_up _ 5 _, _) = _
  unfold mK
  congr 1
  funext j
  unfold va_up
  by_cases h : j = 5
  · subst h; rfl
  · simp only [if_neg h]
theorem mK_6 {m : MS} {p c o : Nat} {e : Int32} {X : RW} {e2 : Int32} : miU (mK m p e c o X) 6 (e2) = mK m p e2 c o X := by
  show (va_up _ 6 _, _) = _
  unfold mK
  congr 1
  funext j
  unfold va_up
  by_cases h : j = 6
  · subst h; rfl
  · simp only [if_neg h]
theorem mK_7 {m : MS} {p c o : Nat} {e : Int32} {X : RW} {c2 : Nat} : miU (mK m p e c o X) 7 (nI c2) = mK m p e c2 o X := by
  show (va_up _ 7 _, _) = _
  unfold mK
  congr 1
  funext j
  unfold va_up
  by_cases h : j = 7
  · subst h; rfl
  · simp only [if_neg h]
theorem mK_8 {m : MS} {p c o : Nat} {e : Int32} {X : RW} {o2 : Nat} : miU (mK m p e c o X) 8 (nI o2) = mK m p e c o2 X := by
  show (va_up _ 8 _, _) = _
  unfold mK
  congr 1
  funext j
  unfold va_up
  by_cases h : j = 8
  · subst h; rfl
  · simp only [if_neg h]
theorem mK_31 {m : MS} {p c o : Nat} {e : Int32} {X : RW} {i : Nat} {v : Int32} : maU (mK m p e c o X) 31 i v = mK m p e c o (upd X.1 i v, X.2.1, X.2.2.1, X.2.2.2.1, X.2.2.2.2) := by
  show (_, _, va_up (fun k => if k = 31 then X.1 else if k = 32 then X.2.1 else if k = 33 then X.2.2.1 else if k = 34 then X.2.2.2.1 else if k = 35 then X.2.2.2.2 else m.2.2.1 k) 31 (upd X.1 i v), _) = _
  unfold mK
  congr 3
  funext j
  unfold va_up
  by_cases h : j = 31
  · subst h; rfl
  · simp only [if_neg h]
theorem mK_32 {m : MS} {p c o : Nat} {e : Int32} {X : RW} {i : Nat} {v : Int32} : maU (mK m p e c o X) 32 i v = mK m p e c o (X.1, upd X.2.1 i v, X.2.2.1, X.2.2.2.1, X.2.2.2.2) := by
  show (_, _, va_up (fun k => if k = 31 then X.1 else if k = 32 then X.2.1 else if k = 33 then X.2.2.1 else if k = 34 then X.2.2.2.1 else if k = 35 then X.2.2.2.2 else m.2.2.1 k) 32 (upd X.2.1 i v), _) = _
  unfold mK
  congr 3
  funext j
  unfold va_up
  by_cases h : j = 32
  · subst h; rfl
  · simp only [if_neg h]
theorem mK_33 {m : MS} {p c o : Nat} {e : Int32} {X : RW} {i : Nat} {v : Int32} : maU (mK m p e c o X) 33 i v = mK m p e c o (X.1, X.2.1, upd X.2.2.1 i v, X.2.2.2.1, X.2.2.2.2) := by
  show (_, _, va_up (fun k => if k = 31 then X.1 else if k = 32 then X.2.1 else if k = 33 then X.2.2.1 else if k = 34 then X.2.2.2.1 else if k = 35 then X.2.2.2.2 else m.2.2.1 k) 33 (upd X.2.2.1 i v), _) = _
  unfold mK
  congr 3
  funext j
  unfold va_up
  by_cases h : j = 33
  · subst h; rfl
  · simp only [if_neg h]
theorem mK_34 {m : MS} {p c o : Nat} {e : Int32} {X : RW} {i : Nat} {v : Int32} : maU (mK m p e c o X) 34 i v = mK m p e c o (X.1, X.2.1, X.2.2.1, upd X.2.2.2.1 i v, X.2.2.2.2) := by
  show (_, _, va_up (fun k => if k = 31 then X.1 else if k = 32 then X.2.1 else if k = 33 then X.2.2.1 else if k = 34 then X.2.2.2.1 else if k = 35 then X.2.2.2.2 else m.2.2.1 k) 34 (upd X.2.2.2.1 i v), _) = _
  unfold mK
  congr 3
  funext j
  unfold va_up
  by_cases h : j = 34
  · subst h; rfl
  · simp only [if_neg h]
theorem mK_35 {m : MS} {p c o : Nat} {e : Int32} {X : RW} {i : Nat} {v : Int32} : maU (mK m p e c o X) 35 i v = mK m p e c o (X.1, X.2.1, X.2.2.1, X.2.2.2.1, upd X.2.2.2.2 i v) := by
  show (_, _, va_up (fun k => if k = 31 then X.1 else if k = 32 then X.2.1 else if k = 33 then X.2.2.1 else if k = 34 then X.2.2.2.1 else if k = 35 then X.2.2.2.2 else m.2.2.1 k) 35 (upd X.2.2.2.2 i v), _) = _
  unfold mK
  congr 3
  funext j
  unfold va_up
  by_cases h : j = 35
  · subst h; rfl
  · simp only [if_neg h]
/-- the text, as both hold it -/
def Tap (b : CS) (m : MS) (T : Nat → Nat) (L f : Nat) : Prop := L ≤ 100 ∧ f ≤ 30 ∧ ci b 7 = nI L ∧ mi m 4 = nI L ∧ mi m 3 = nI f ∧ ∀ i, i < L → T i < 256 ∧ ca b 18 i &&& 255 = nI (T i) ∧ ma m 30 i = nI (T i)
/-- behind the spaces from p stands q -/
def Sk (T : Nat → Nat) (L p q : Nat) : Prop := p ≤ q ∧ q ≤ L ∧ (∀ i, p ≤ i → i < q → T i = 32) ∧ ¬ (q < L ∧ T q = 32)
theorem Sk_ex {T : Nat → Nat} {L : Nat} : ∀ (n p : Nat), p ≤ L → L ≤ p + n → ∃ q, Sk T L p q := by
  intro n
  induction n with
  | zero => intro p h1 h2; exact ⟨p, Nat.le_refl _, h1, fun i a b => by omega, fun h => by omega⟩
  | succ n ih =>
    intro p h1 h2
    by_cases h : p < L ∧ T p = 32
    · obtain ⟨q, a1, a2, a3, a4⟩ := ih (p + 1) (by omega) (by omega)
      refine ⟨q, by omega, a2, fun i b1 b2 => ?_, a4⟩
      by_cases z : i = p
      · rw [z]; exact h.2
      · exact a3 i (by omega) b2
    · exact ⟨p, Nat.le_refl _, h1, fun i a b => by omega, h⟩
theorem Sk_self {T : Nat → Nat} {L p q : Nat} (h : Sk T L p q) : Sk T L q q := ⟨Nat.le_refl _, h.2.1, fun i a b => by omega, h.2.2.2⟩
theorem Sk_here {T : Nat → Nat} {L p : Nat} (h : p ≤ L) (hn : ¬ (p < L ∧ T p = 32)) : Sk T L p p := ⟨Nat.le_refl _, h, fun i a b => by omega, hn⟩
def bC (T : Nat → Nat) (L q : Nat) : Int32 := if q < L then nI (T q) else -1
def bM (T : Nat → Nat) (L q : Nat) : Int32 := if q < L then nI (T q) else 0
/-! the class's reading -/
theorem c_here {b : CS} {m : MS} {T : Nat → Nat} {L f : Nat} (hT : Tap b m T L f) {p z : Nat} {S : Nat → Int32} (hp : p ≤ L) : f_X3_byteHere (cK b p z 0 S) = some (bC T L p) := by
  obtain ⟨hL, hf, h7, h4, h3, hB⟩ := hT
  have e10 : ci (cK b p z 0 S) 10 = 0 := rfl
  have e8 : ci (cK b p z 0 S) 8 = nI p := rfl
  have e7 : ci (cK b p z 0 S) 7 = nI L := h7
  have e18 : ca (cK b p z 0 S) 18 = ca b 18 := rfl
  unfold f_X3_byteHere bC
  rw [e10, if_pos rfl, e8, if_neg (nI_pos (by omega)), e7]
  by_cases q : p < L
  · rw [if_neg (nI_ge q (by omega)), if_neg (show ¬ (100 : Int32) ≤ nI p from nI_ge (b := 100) (by omega) (by omega)), ldI_n (by omega) (by omega), some_bind, e18, if_pos q, (hB p q).2.1]
  · rw [if_pos (nI_le (by omega) (by omega)), if_neg q]
theorem c_here1 {b : CS} {p z : Nat} {S : Nat → Int32} : f_X3_byteHere (cK b p z 1 S) = some (-1) := by
  unfold f_X3_byteHere
  rw [show ci (cK b p z 1 S) 10 = 1 from rfl, if_neg one_ne]
theorem next_loop {b : CS} {m : MS} {T : Nat → Nat} {L f : Nat} (hT : Tap b m T L f) {q z : Nat} {S : Nat → Int32} : ∀ (n p : Nat), Sk T L p q → q + 1 ≤ p + n → f_X3_nextByte_0 n (cK b p z 0 S) = some (bC T L q, cK b q z 0 S) := by
  intro n
  induction n with
  | zero => intro p h1 h2; have := h1.1; omega
  | succ n ih =>
    intro p h1 h2
    obtain ⟨a1, a2, a3, a4⟩ := id h1
    have hL := hT.1
    have e10 : ci (cK b p z 0 S) 10 = 0 := rfl
    have e8 : ci (cK b p z 0 S) 8 = nI p := rfl
    have e7 : ci (cK b p z 0 S) 7 = nI L := hT.2.2.1
    rw [f_X3_nextByte_0, e10, if_pos rfl, e7, e8]
    by_cases hp : p < L
    · rw [if_neg (nI_ge hp (by omega)), c_here hT (by omega), some_bind, some_bind]
      have hb := (hT.2.2.2.2.2 p hp).1
      have eb : bC T L p = nI (T p) := if_pos hp
      rw [eb]
      by_cases h32 : T p = 32
      · have hpq : p ≠ q := fun e => a4 (by rw [← e]; exact ⟨hp, h32⟩)
        rw [if_pos (show nI (T p) = 32 by rw [h32]; rfl), nI_1, cK_8]
        exact ih (p + 1) ⟨by omega, a2, fun i b1 b2 => a3 i (by omega) b2, a4⟩ (by omega)
      · have hpq : p = q := by
          rcases Nat.lt_or_ge p q with z | z
          · exact absurd (a3 p (Nat.le_refl _) z) h32
          · omega
        subst hpq
        rw [if_neg (show ¬ nI (T p) = (32 : Int32) from fun e => h32 (nI_inj (b := 32) (by omega) (by omega) e)), eb]
    · have : p = q := by omega
      subst this
      rw [if_pos (nI_le (by omega) (by omega)), c_here hT (by omega), some_bind]
theorem c_next {b : CS} {m : MS} {T : Nat → Nat} {L f : Nat} (hT : Tap b m T L f) {p q z : Nat} {S : Nat → Int32} (h : Sk T L p q) : f_X3_nextByte (cK b p z 0 S) = some (bC T L q, cK b q z 0 S) :=
  next_loop hT 1000 p h (by have := h.2.1; have := hT.1; omega)
theorem c_next1 {b : CS} {p z : Nat} {S : Nat → Int32} : f_X3_nextByte (cK b p z 1 S) = some (-1, cK b p z 1 S) := by
  show f_X3_nextByte_0 (999 + 1) (cK b p z 1 S) = _
  rw [f_X3_nextByte_0, show ci (cK b p z 1 S) 10 = 1 from rfl, if_neg one_ne, c_here1, some_bind]
theorem bC_eq {b : CS} {m : MS} {T : Nat → Nat} {L f : Nat} (hT : Tap b m T L f) {q x : Nat} (hx : x < 256) : bC T L q = nI x ↔ q < L ∧ T q = x := by
  unfold bC
  by_cases h : q < L
  · rw [if_pos h]
    have := (hT.2.2.2.2.2 q h).1
    exact ⟨fun e => ⟨h, nI_inj (by omega) (by omega) e⟩, fun e => by rw [e.2]⟩
  · rw [if_neg h]
    exact ⟨fun e => absurd e.symm (nI_ne_neg (by omega)), fun e => absurd e.1 h⟩
theorem bM_eq {b : CS} {m : MS} {T : Nat → Nat} {L f : Nat} (hT : Tap b m T L f) {q x : Nat} (hx : x < 256) (h0 : x ≠ 0) : bM T L q = nI x ↔ q < L ∧ T q = x := by
  unfold bM
  by_cases h : q < L
  · rw [if_pos h]
    have := (hT.2.2.2.2.2 q h).1
    exact ⟨fun e => ⟨h, nI_inj (by omega) (by omega) e⟩, fun e => by rw [e.2]⟩
  · rw [if_neg h]
    exact ⟨fun e => absurd (nI_inj (a := 0) (by omega) (by omega) e) (by omega), fun e => absurd e.1 h⟩
theorem c_comes {b : CS} {m : MS} {T : Nat → Nat} {L f : Nat} (hT : Tap b m T L f) {p q z x : Nat} {S : Nat → Int32} (h : Sk T L p q) (hx : x < 256) : f_X3_comes (cK b p z 0 S) (nI x) = if q < L ∧ T q = x then some (1, cK b (q + 1) z 0 S) else some (0, cK b q z 0 S) := by
  unfold f_X3_comes
  rw [c_next hT h, b2_some]
  by_cases e : q < L ∧ T q = x
  · rw [if_pos ((bC_eq hT hx).mpr e), if_pos e, show ci (cK b q z 0 S) 8 = nI q from rfl, nI_1, cK_8]
  · rw [if_neg (fun y => e ((bC_eq hT hx).mp y)), if_neg e]
theorem c_comes1 {b : CS} {p z x : Nat} {S : Nat → Int32} (hx : x < 256) : f_X3_comes (cK b p z 1 S) (nI x) = some (0, cK b p z 1 S) := by
  unfold f_X3_comes
  rw [c_next1, b2_some, if_neg (fun e => nI_ne_neg (by omega) e.symm)]
theorem c_must {b : CS} {m : MS} {T : Nat → Nat} {L f : Nat} (hT : Tap b m T L f) {p q z x : Nat} {S : Nat → Int32} (h : Sk T L p q) (hx : x < 256) : f_X3_must (cK b p z 0 S) (nI x) = if q < L ∧ T q = x then some (cK b (q + 1) z 0 S) else some (cK b q z 1 S) := by
  unfold f_X3_must
  rw [c_next hT h, b2_some]
  by_cases e : q < L ∧ T q = x
  · rw [if_pos ((bC_eq hT hx).mpr e), if_pos e, show ci (cK b q z 0 S) 8 = nI q from rfl, nI_1, cK_8]
  · rw [if_neg (fun y => e ((bC_eq hT hx).mp y)), if_neg e, cK_10]
theorem c_must1 {b : CS} {p z x : Nat} {S : Nat → Int32} (hx : x < 256) : f_X3_must (cK b p z 1 S) (nI x) = some (cK b p z 1 S) := by
  unfold f_X3_must
  rw [c_next1, b2_some, if_neg (fun e => nI_ne_neg (by omega) e.symm), cK_10]
theorem nI_shl (a k : Nat) (s : Int32) (hs : (s.toBitVec.smod 32#32).toNat = k) : nI a <<< s = nI (a * 2 ^ k) := by
  apply Int32.toBitVec_inj.mp
  show BitVec.ofNat 32 a <<< (s.toBitVec.smod 32#32) = BitVec.ofNat 32 (a * 2 ^ k)
  rw [BitVec.shiftLeft_eq', hs]
  apply BitVec.eq_of_toNat_eq
  rw [BitVec.toNat_shiftLeft, BitVec.toNat_ofNat, BitVec.toNat_ofNat, Nat.shiftLeft_eq, Nat.mod_mul_mod]
def stp (q : Nat × Nat × Nat) : Int32 := nI (q.1 * 268435456 + q.2.1 * 16384 + q.2.2)
theorem code_n {a x y : Nat} (hx : x < 16384) (hy : y < 16384) : ((nI a <<< ((28 : Int32) &&& 31)) ||| (nI x <<< ((14 : Int32) &&& 31))) ||| nI y = stp (a, x, y) := by
  rw [nI_shl a 28 _ (by decide), nI_shl x 14 _ (by decide), nI_or, nI_or]
  unfold stp
  congr 1
  have h1 : a * 2 ^ 28 ||| x * 2 ^ 14 = a * 2 ^ 28 + x * 2 ^ 14 := by
    have := Nat.two_pow_add_eq_or_of_lt (i := 28) (b := x * 2 ^ 14) (by omega) a
    rw [Nat.mul_comm a, this]
  have h2 : (a * 2 ^ 28 + x * 2 ^ 14) ||| y = a * 2 ^ 28 + x * 2 ^ 14 + y := by
    have := Nat.two_pow_add_eq_or_of_lt (i := 14) (b := y) (by omega) (a * 2 ^ 14 + x)
    rw [show a * 2 ^ 28 + x * 2 ^ 14 = 2 ^ 14 * (a * 2 ^ 14 + x) by omega, this]
  rw [h1, h2]
theorem c_add {b : CS} {p z a x y : Nat} {S : Nat → Int32} (hz : z < 100) (hx : x < 16384) (hy : y < 16384) : f_X3_add (cK b p z 0 S) (nI a) (nI x) (nI y) = some (cK b p (z + 1) 0 (upd S z (stp (a, x, y)))) := by
  unfold f_X3_add
  rw [show ci (cK b p z 0 S) 10 = 0 from rfl, if_pos rfl, show ci (cK b p z 0 S) 9 = nI z from rfl, if_neg (show ¬ nI z < 0 from nI_pos (by omega)), if_neg (show ¬ (100 : Int32) ≤ nI z from nI_ge (b := 100) hz (by omega)), ixr_n hz (by omega), nI_clamp (by omega), code_n hx hy, cK_19, show ci (cK b p z 0 (upd S z (stp (a, x, y)))) 9 = nI z from rfl, nI_1, cK_9]
theorem c_add_any {b : CS} {p z : Nat} {w v1 v2 v3 : Int32} {S : Nat → Int32} (hz : z ≤ 100) : ∃ z' S', z' ≤ 100 ∧ f_X3_add (cK b p z w S) v1 v2 v3 = some (cK b p z' w S') := by
  unfold f_X3_add
  rw [show ci (cK b p z w S) 10 = w from rfl, show ci (cK b p z w S) 9 = nI z from rfl]
  by_cases h : w = 0
  · rw [if_pos h, if_neg (show ¬ nI z < 0 from nI_pos (by omega))]
    by_cases h2 : z = 100
    · subst h2
      rw [if_pos (show (100 : Int32) ≤ nI 100 by decide)]
      exact ⟨100, S, by omega, rfl⟩
    · rw [if_neg (show ¬ (100 : Int32) ≤ nI z from nI_ge (b := 100) (by omega) (by omega)), ixr_n (by omega) (by omega), nI_clamp (by omega), cK_19, show ∀ S, ci (cK b p z w S) 9 = nI z from fun S => rfl, nI_1, cK_9]
      exact ⟨z + 1, _, by omega, rfl⟩
  · rw [if_neg h]
    exact ⟨z, S, hz, rfl⟩

/-! ===== the pure half: numbers ===== -/
theorem nI_lt_iff {a b : Nat} (ha : a < 2 ^ 31) (hb : b < 2 ^ 31) : nI a < nI b ↔ a < b :=
  ⟨fun h => Nat.lt_of_not_le fun q => nI_nlt q ha h, fun h => nI_lt h hb⟩
theorem nI_le_iff {a b : Nat} (ha : a < 2 ^ 31) (hb : b < 2 ^ 31) : nI a ≤ nI b ↔ a ≤ b :=
  ⟨fun h => Nat.le_of_not_lt fun q => nI_ge q ha h, fun h => nI_le h hb⟩
theorem nI_inj {a b : Nat} (ha : a < 2 ^ 31) (hb : b < 2 ^ 31) (h : nI a = nI b) : a = b := by
  have := congrArg Int32.toNatClampNeg h
  rwa [nI_clamp ha, nI_clamp hb] at this
theorem nI_mul (a b : Nat) : nI a * nI b = nI (a * b) := (Int32.ofNat_mul a b).symm
theorem nI_ne_neg {k : Nat} (h : k < 2 ^ 31) : nI k ≠ -1 := by
  intro q
  have h1 := congrArg Int32.toInt q
  rw [nI_toInt h] at h1
  have h2 : (-1 : Int32).toInt = -1 := rfl
  omega
theorem ldI_n {a : Nat → Int32} {n k : Nat} (h : k < n) (hn : k < 2 ^ 31) : ldI a n (nI k) = some (a k) := by
  unfold ldI
  rw [if_neg (by rw [nI_clamp hn]; exact fun q => q.elim (fun z => nI_pos hn z) (fun z => by omega)), nI_clamp hn]
theorem ldL_n {a : Nat → Int64} {n k : Nat} (h : k < n) (hn : k < 2 ^ 31) : ldL a n (nI k) = some (a k) := by
  unfold ldL
  rw [if_neg (by rw [nI_clamp hn]; exact fun q => q.elim (fun z => nI_pos hn z) (fun z => by omega)), nI_clamp hn]
theorem ldQ_n {a : Nat → Option Nat} {n k : Nat} (h : k < n) (hn : k < 2 ^ 31) : ldQ a n (nI k) = some (a k) := by
  unfold ldQ
  rw [if_neg (by rw [nI_clamp hn]; exact fun q => q.elim (fun z => nI_pos hn z) (fun z => by omega)), nI_clamp hn]
theorem ixr_n {α : Type} {n k : Nat} {z : Option α} (h : k < n) (hn : k < 2 ^ 31) : ixr n (nI k) z = z := by
  unfold ixr
  rw [if_neg (by rw [nI_clamp hn]; exact fun q => q.elim (fun z => nI_pos hn z) (fun z => by omega))]
theorem gd_t {α : Type} {c : Prop} {hc : Decidable c} {k : Option α} (h : c) : gd c k = k := if_pos h
theorem b2_some {α β γ : Type} {a : α} {b : β} {k : α → β → Option γ} : b2 (some (a, b)) k = k a b := rfl
theorem bx_inl {α β σ : Type} {r : α} {s : σ} {k : α → σ → Option ((β ⊕ String) × σ)} : bx (some (.inl r, s)) k = k r s := rfl
theorem bx_inr {α β σ : Type} {e : String} {s : σ} {k : α → σ → Option ((β ⊕ String) × σ)} : bx (some (.inr e, s)) k = some (.inr e, s) := rfl
theorem some_bind {α β : Type} {a : α} {k : α → Option β} : (some a).bind k = k a := rfl
theorem upd_eq {f : Nat → Int32} {i : Nat} {v : Int32} : upd f i v i = v := pk_us
theorem upd_ne {f : Nat → Int32} {i j : Nat} {v : Int32} (h : j ≠ i) : upd f i v j = f j := pk_un h
theorem updL_eq {f : Nat → Int64} {i : Nat} {v : Int64} : vp_updL f i v i = v := if_pos rfl
theorem updL_ne {f : Nat → Int64} {i j : Nat} {v : Int64} (h : j ≠ i) : vp_updL f i v j = f j := if_neg h
/-- whole rows set -/
def caS (s : CS) (k : Nat) (g : Nat → Int32) : CS := (s.1, s.2.1, va_up s.2.2.1 k g, s.2.2.2)
def cbS (s : CS) (k : Nat) (g : Nat → Int64) : CS := (s.1, s.2.1, s.2.2.1, va_up s.2.2.2.1 k g, s.2.2.2.2)
def maS (s : MS) (k : Nat) (g : Nat → Int32) : MS := (s.1, s.2.1, va_up s.2.2.1 k g, s.2.2.2)
def mbS (s : MS) (k : Nat) (g : Nat → Int64) : MS := (s.1, s.2.1, s.2.2.1, va_up s.2.2.2 k g)
theorem va_up_up {α : Type} {f : Nat → α} {k : Nat} {x y : α} : va_up (va_up f k x) k y = va_up f k y := by
  funext j
  unfold va_up
  by_cases h : j = k
  · rw [if_pos h, if_pos h]
  · rw [if_neg h, if_neg h, if_neg h]
theorem va_up_at {α : Type} {f : Nat → α} {k : Nat} {x : α} : va_up f k x k = x := if_pos rfl
theorem va_up_id {α : Type} {f : Nat → α} {k : Nat} : va_up f k (f k) = f := by
  funext j
  unfold va_up
  by_cases h : j = k
  · rw [if_pos h, h]
  · rw [if_neg h]
theorem cbS_cbU {s : CS} {k i : Nat} {g : Nat → Int64} {v : Int64} : cbU (cbS s k g) k i v = cbS s k (vp_updL g i v) := by
  show (_, _, _, va_up (va_up _ k g) k (vp_updL (va_up _ k g k) i v), _) = _
  rw [va_up_up, va_up_at]
  rfl
theorem caS_caU {s : CS} {k i : Nat} {g : Nat → Int32} {v : Int32} : caU (caS s k g) k i v = caS s k (upd g i v) := by
  show (_, _, va_up (va_up _ k g) k (upd (va_up _ k g k) i v), _) = _
  rw [va_up_up, va_up_at]
  rfl
theorem mbS_mbU {s : MS} {k i : Nat} {g : Nat → Int64} {v : Int64} : mbU (mbS s k g) k i v = mbS s k (vp_updL g i v) := by
  show (_, _, _, va_up (va_up _ k g) k (vp_updL (va_up _ k g k) i v)) = _
  rw [va_up_up, va_up_at]
  rfl
theorem maS_maU {s : MS} {k i : Nat} {g : Nat → Int32} {v : Int32} : maU (maS s k g) k i v = maS s k (upd g i v) := by
  show (_, _, va_up (va_up _ k g) k (upd (va_up _ k g k) i v), _) = _
  rw [va_up_up, va_up_at]
  rfl
theorem cbS_id {s : CS} {k : Nat} : cbS s k (cb s k) = s := by
  show (_, _, _, va_up s.2.2.2.1 k (s.2.2.2.1 k), _) = s
  rw [va_up_id]
theorem mbS_id {s : MS} {k : Nat} : mbS s k (mb s k) = s := by
  show (_, _, _, va_up s.2.2.2 k (s.2.2.2 k)) = s
  rw [va_up_id]
theorem l8 : (8 : Int32) = nI 8 := rfl
theorem l10 : (10 : Int32) = nI 10 := rfl
theorem l12 : (12 : Int32) = nI 12 := rfl
theorem l16 : (16 : Int32) = nI 16 := rfl
theorem l128 : (128 : Int32) = nI 128 := rfl
theorem l1536 : (1536 : Int32) = nI 1536 := rfl
theorem not_le_nI {a b : Nat} (h : b < a) (ha : a < 2 ^ 31) : ¬ nI a ≤ nI b := nI_ge h ha
/-! ===== sheets ===== -/
def RSh (cs : CS) (ms : MS) : Prop := ∃ n : Nat, n ≤ 8 ∧ ci cs 4 = nI n ∧ mi ms 1 = nI n ∧ (∀ i, i < n → ca cs 12 i = ma ms 27 i) ∧ (∀ r, r < 128 → ca cs 13 r = ma ms 28 r ∧ (ca cs 13 r = -1 ∨ ∃ k, k ≤ 12 ∧ ca cs 13 r = nI k)) ∧ ∀ r i k, r < 128 → i < k → k ≤ 12 → ca cs 13 r = nI k → cb cs 14 (12 * r + i) = mb ms 29 (12 * r + i)
theorem lengthAt_n {cs : CS} {r : Nat} (h : r < 128) : f_X7_lengthAt cs (nI r) = some (ca cs 13 r) := by
  unfold f_X7_lengthAt
  rw [l128, if_neg (nI_pos (by omega)), if_neg (nI_ge (by omega) (by omega)), ldI_n h (by omega)]
  rfl
theorem placeOf_n {cs : CS} {r i k : Nat} (h : r < 128) (hk : k ≤ 12) (hl : ca cs 13 r = nI k) (hi : i < 2 ^ 31) : f_X7_placeOf cs (nI r) (nI i) = some (if i < k then nI (12 * r + i) else -1) := by
  unfold f_X7_placeOf
  rw [if_neg (nI_pos hi), lengthAt_n h, some_bind, hl]
  by_cases q : i < k
  · rw [if_neg (fun z => absurd ((nI_le_iff (by omega) (by omega)).mp z) (by omega)), if_pos q]
    rw [show nI r * (12 : Int32) + nI i = nI (12 * r + i) by rw [show (12 : Int32) = nI 12 from rfl, nI_mul, nI_add, Nat.mul_comm r 12]]
    rw [l1536, if_neg (nI_pos (by omega)), if_neg (nI_ge (by omega) (by omega))]
  · rw [if_pos (nI_le (by omega) (by omega)), if_neg q]
theorem nI_div {a b : Nat} (ha : a < 2 ^ 31) (hb : b < 2 ^ 31) : nI a / nI b = nI (a / b) := by
  apply Int32.toInt_inj.mp
  have hd : a / b ≤ a := Nat.div_le_self a b
  have h1 : ((a : Int).tdiv (b : Int)) = ((a / b : Nat) : Int) := by
    rw [Int.tdiv_eq_ediv_of_nonneg (by omega)]; rfl
  rw [Int32.toInt_div, nI_toInt ha, nI_toInt hb, h1, nI_toInt (by omega)]
  generalize a / b = q at hd ⊢
  rw [Int.bmod_eq_of_le] <;> omega
/-- a number cut to a sheet's width -/
def cutW (w : Int32) (v : Int64) : Int64 := if w = 0 then v.toInt32.toInt16.toInt32.toInt64 else if w = 1 then v.toInt32.toInt64 else v
theorem cutW_0 (w : Int32) : cutW w 0 = 0 := by
  unfold cutW
  split
  · rfl
  · split <;> rfl
theorem lowest_n {cs : CS} {r : Nat} {v : Int64} (h : r < 128) : f_X7_lowestBits cs (nI r) v = some (cutW (ca cs 12 (r / 16)) v) := by
  unfold f_X7_lowestBits
  rw [show nI r / (16 : Int32) = nI (r / 16) from nI_div (b := 16) (by omega) (by omega)]
  rw [l8, if_neg (nI_pos (by omega)), if_neg (nI_ge (by omega) (by omega)), ldI_n (by omega) (by omega), some_bind]
  unfold cutW
  split
  · rfl
  · split <;> rfl
theorem write_n {cs : CS} {r i k : Nat} {v : Int64} (h : r < 128) (hk : k ≤ 12) (hl : ca cs 13 r = nI k) (hi : i < 2 ^ 31) : f_X7_write cs (nI r) (nI i) v = some (if i < k then (1, cbU cs 14 (12 * r + i) (cutW (ca cs 12 (r / 16)) v)) else (0, cs)) := by
  unfold f_X7_write
  rw [placeOf_n h hk hl hi, some_bind]
  by_cases q : i < k
  · rw [if_pos q, if_pos q, if_neg (nI_ne_neg (by omega)), lowest_n h, some_bind, ixr_n (by omega) (by omega), nI_clamp (by omega)]
  · rw [if_neg q, if_neg q, if_pos rfl]
theorem renew_loop {r k : Nat} {s : CS} (h : r < 128) (hk : k ≤ 12) (hl : ca s 13 r = nI k) : ∀ (n i : Nat) (g : Nat → Int64), i ≤ k → 13 ≤ i + n → ∃ g' : Nat → Int64, f_X7_renew_23 n (cbS s 14 g) (nI r) (nI k) (nI i) = some (cbS s 14 g') ∧ (∀ j, i ≤ j → j < k → g' (12 * r + j) = 0) ∧ ∀ z, (∀ j, i ≤ j → j < k → z ≠ 12 * r + j) → g' z = g z := by
  intro n
  induction n with
  | zero => intro i g h1 h2; omega
  | succ n ih =>
    intro i g h1 h2
    rw [f_X7_renew_23]
    by_cases q : k ≤ i
    · rw [if_pos (nI_le q (by omega))]
      exact ⟨g, rfl, fun j a b => by omega, fun z _ => rfl⟩
    · rw [if_neg (fun z => q ((nI_le_iff (by omega) (by omega)).mp z)), write_n (cs := cbS s 14 g) h hk hl (by omega), if_pos (by omega), b2_some, cbS_cbU, cutW_0, nI_1]
      obtain ⟨g', e1, e2, e3⟩ := ih (i + 1) (vp_updL g (12 * r + i) 0) (by omega) (by omega)
      refine ⟨g', e1, fun j a b => ?_, fun z hz => ?_⟩
      · by_cases hj : j = i
        · rw [e3 _ (fun j' a' b' => by omega), hj, updL_eq]
        · exact e2 j (by omega) b
      · rw [e3 z (fun j a b => hz j (by omega) b), updL_ne (hz i (Nat.le_refl i) (by omega))]
theorem row_loop {r : Nat} {v : Int32} {s : MS} (h : r < 128) : ∀ (n i : Nat) (g : Nat → Int64), i ≤ 12 → 13 ≤ i + n → ∃ g' : Nat → Int64, f_X9_row_48 n (mbS s 29 g) v (nI r) (nI i) = some (v, mbS s 29 g') ∧ (∀ j, i ≤ j → j < 12 → g' (12 * r + j) = 0) ∧ ∀ z, (∀ j, i ≤ j → j < 12 → z ≠ 12 * r + j) → g' z = g z := by
  intro n
  induction n with
  | zero => intro i g h1 h2; omega
  | succ n ih =>
    intro i g h1 h2
    rw [f_X9_row_48]
    rw [l12]
    by_cases q : 12 ≤ i
    · rw [if_pos (nI_le q (by omega))]
      exact ⟨g, rfl, fun j a b => by omega, fun z _ => rfl⟩
    · rw [if_neg (nI_ge (by omega) (by omega)), nI_mul, nI_add, ixr_n (by omega) (by omega), nI_clamp (by omega), mbS_mbU, nI_1]
      obtain ⟨g', e1, e2, e3⟩ := ih (i + 1) (vp_updL g (12 * r + i) 0) (by omega) (by omega)
      refine ⟨g', e1, fun j a b => ?_, fun z hz => ?_⟩
      · by_cases hj : j = i
        · rw [e3 _ (fun j' a' b' => by omega), hj, updL_eq]
        · exact e2 j (by omega) b
      · rw [e3 z (fun j a b => hz j (by omega) b), updL_ne (hz i (Nat.le_refl i) (by omega))]

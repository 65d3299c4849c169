/-! ===== best, worth: the run of gains ===== -/
def st8 (M : Nat → Bool) (own : Nat → Int32) (H : Nat → Option Nat) (p : Nat) (G : Nat → Int32) : Nat → Int32 :=
  if M p = true then (if G p + own p ≤ 0 then upd G p (G p + own p) else match H p with
    | none => upd G p (G p + own p)
    | some j => upd (upd G p (G p + own p)) j (upd G p (G p + own p) j + (G p + own p))) else G
def st9 (M : Nat → Bool) (own : Nat → Int32) (H : Nat → Option Nat) (p : Nat) (G : Nat → Int32) : Nat → Int32 :=
  if M p = true then (if G p + own p ≤ 0 then upd G p (G p + own p) else match H p with
    | none => upd G p (G p + own p)
    | some j => upd (upd G p (G p + own p)) j (upd G p (G p + own p) j + (G p + own p))) else upd G p (-1)
def run (f : Nat → (Nat → Int32) → (Nat → Int32)) : Nat → (Nat → Int32) → (Nat → Int32)
  | 0, G => G
  | i + 1, G => run f i (f i G)
def RelI (M On : Nat → Bool) (i k : Nat) (G8 G9 : Nat → Int32) : Prop := ∀ q, q < k → (q < i → On q = true → G8 q = G9 q) ∧ (i ≤ q → M q = true → G8 q = G9 q)
theorem rel_step {M On : Nat → Bool} {own : Nat → Int32} {H P : Nat → Option Nat} (hlt : ∀ q j, H q = some j → j < q) (hP : ∀ q, P q = match H q with | none => none | some j => if On j = true then some j else none) (hM : ∀ q, M q = true → On q = true) {i k : Nat} (hi : i < k) {G8 G9 : Nat → Int32} (h : RelI M On (i + 1) k G8 G9) : RelI M On i k (st8 M own H i G8) (st9 M own P i G9) := by
  intro q hq
  obtain ⟨r1, r2⟩ := h q hq
  unfold st8 st9
  by_cases m : M i = true
  · have e : G8 i = G9 i := (h i hi).1 (by omega) (hM i m)
    rw [if_pos m, if_pos m, e]
    have base : (q < i → On q = true → upd G8 i (G9 i + own i) q = upd G9 i (G9 i + own i) q) ∧ (i ≤ q → M q = true → upd G8 i (G9 i + own i) q = upd G9 i (G9 i + own i) q) := by
      refine ⟨fun a b => ?_, fun a b => ?_⟩
      · rw [upd_ne (by omega), upd_ne (by omega)]; exact r1 (by omega) b
      · by_cases z : q = i
        · rw [z, upd_eq, upd_eq]
        · rw [upd_ne z, upd_ne z]; exact r2 (by omega) b
    by_cases x : G9 i + own i ≤ 0
    · rw [if_pos x, if_pos x]; exact base
    rw [if_neg x, if_neg x]
    cases hH : H i with
    | none =>
      have : P i = none := by rw [hP, hH]
      rw [this]; exact base
    | some j =>
      have hj := hlt i j hH
      by_cases o : On j = true
      · have : P i = some j := by rw [hP, hH]; exact if_pos o
        rw [this]
        refine ⟨fun a b => ?_, fun a b => ?_⟩
        · by_cases z : q = j
          · subst z
            show upd (upd G8 i _) q _ q = upd (upd G9 i _) q _ q
            rw [upd_eq, upd_eq, base.1 a b]
          · show upd (upd G8 i _) j _ q = upd (upd G9 i _) j _ q
            rw [upd_ne z, upd_ne z]; exact base.1 a b
        · show upd (upd G8 i _) j _ q = upd (upd G9 i _) j _ q
          rw [upd_ne (i := j) (by omega), upd_ne (i := j) (by omega)]; exact base.2 a b
      · have : P i = none := by rw [hP, hH]; exact if_neg o
        rw [this]
        refine ⟨fun a b => ?_, fun a b => ?_⟩
        · have z : q ≠ j := fun z => o (z ▸ b)
          show upd (upd G8 i _) j _ q = upd G9 i _ q
          rw [upd_ne z]; exact base.1 a b
        · show upd (upd G8 i _) j _ q = upd G9 i _ q
          rw [upd_ne (by omega)]; exact base.2 a b
  · rw [if_neg m, if_neg m]
    refine ⟨fun a b => ?_, fun a b => ?_⟩
    · rw [upd_ne (by omega)]; exact r1 (by omega) b
    · by_cases z : q = i
      · exact absurd (z ▸ b) m
      · rw [upd_ne z]; exact r2 (by omega) b
theorem rel_run {M On : Nat → Bool} {own : Nat → Int32} {H P : Nat → Option Nat} (hlt : ∀ q j, H q = some j → j < q) (hP : ∀ q, P q = match H q with | none => none | some j => if On j = true then some j else none) (hM : ∀ q, M q = true → On q = true) {k : Nat} : ∀ (i : Nat) (G8 G9 : Nat → Int32), i ≤ k → RelI M On i k G8 G9 → RelI M On 0 k (run (st8 M own H) i G8) (run (st9 M own P) i G9) := by
  intro i
  induction i with
  | zero => intro G8 G9 _ h; exact h
  | succ i ih => intro G8 G9 hi h; exact ih _ _ (by omega) (rel_step hlt hP hM (by omega) h)
theorem st9_hi {M : Nat → Bool} {own : Nat → Int32} {P : Nat → Option Nat} (hlt : ∀ q j, P q = some j → j < q) {i q : Nat} (h : i < q) (G : Nat → Int32) : st9 M own P i G q = G q := by
  unfold st9
  by_cases m : M i = true
  · rw [if_pos m]
    by_cases x : G i + own i ≤ 0
    · rw [if_pos x, upd_ne (by omega)]
    · rw [if_neg x]
      cases hp : P i with
      | none => exact upd_ne (by omega)
      | some j =>
        have := hlt i j hp
        exact (upd_ne (by omega)).trans (upd_ne (by omega))
  · rw [if_neg m, upd_ne (by omega)]
theorem st9_at {M : Nat → Bool} {own : Nat → Int32} {P : Nat → Option Nat} (hlt : ∀ q j, P q = some j → j < q) {i : Nat} (m : M i = true) (G : Nat → Int32) : st9 M own P i G i = G i + own i := by
  unfold st9
  rw [if_pos m]
  by_cases x : G i + own i ≤ 0
  · rw [if_pos x, upd_eq]
  · rw [if_neg x]
    cases hp : P i with
    | none => exact upd_eq
    | some j =>
      have := hlt i j hp
      exact (upd_ne (by omega)).trans upd_eq
theorem run_hi {M : Nat → Bool} {own : Nat → Int32} {P : Nat → Option Nat} (hlt : ∀ q j, P q = some j → j < q) : ∀ (i : Nat) (G : Nat → Int32) (q : Nat), i ≤ q → run (st9 M own P) i G q = G q := by
  intro i
  induction i with
  | zero => intro G q _; rfl
  | succ i ih => intro G q h; exact (ih _ q (by omega)).trans (st9_hi hlt (by omega) G)
/-- a sum over those of S below n -/
def sm (f : Nat → Int32) (S : Nat → Bool) : Nat → Int32
  | 0 => 0
  | n + 1 => sm f S n + if S n = true then f n else 0
theorem sm_ext {f g : Nat → Int32} {S : Nat → Bool} : ∀ n, (∀ q, q < n → S q = true → f q = g q) → sm f S n = sm g S n := by
  intro n
  induction n with
  | zero => intro _; rfl
  | succ n ih =>
    intro h
    rw [sm, sm, ih (fun q a b => h q (by omega) b)]
    by_cases z : S n = true
    · rw [if_pos z, if_pos z, h n (by omega) z]
    · rw [if_neg z, if_neg z]
theorem sm_upd {f : Nat → Int32} {S : Nat → Bool} {j : Nat} {v : Int32} (hS : S j = true) : ∀ n, j < n → sm (upd f j v) S n = sm f S n + (v - f j) := by
  intro n
  induction n with
  | zero => intro h; omega
  | succ n ih =>
    intro h
    rw [sm, sm]
    by_cases z : j = n
    · subst z
      have : sm (upd f j v) S j = sm f S j := sm_ext j (fun q a b => upd_ne (by omega))
      rw [this, if_pos hS, if_pos hS, upd_eq]
      grind
    · rw [ih (by omega), upd_ne (by omega)]
      grind
theorem sm_out {f : Nat → Int32} {S : Nat → Bool} {j : Nat} {v : Int32} (n : Nat) (h : n ≤ j ∨ S j = false) : sm (upd f j v) S n = sm f S n := by
  apply sm_ext
  intro q a b
  refine upd_ne (fun z => ?_)
  subst z
  rcases h with h | h
  · omega
  · rw [h] at b; cases b
theorem sum_run {M : Nat → Bool} {own : Nat → Int32} {P : Nat → Option Nat} (hlt : ∀ q j, P q = some j → j < q) (S : Nat → Bool) : ∀ (i : Nat) (G : Nat → Int32), (∀ p, p < i → S p = true → M p = true ∧ ¬ run (st9 M own P) i G p ≤ 0 ∧ ∀ j, P p = some j → S j = true) → (∀ p, p < i → S p = false → M p = true → ¬ run (st9 M own P) i G p ≤ 0 → ∃ j, P p = some j ∧ S j = false) → sm G S i + sm own S i = sm (run (st9 M own P) i G) (fun p => S p && (P p).isNone) i := by
  intro i
  induction i with
  | zero => intro G _ _; rfl
  | succ i ih =>
    intro G h1 h2
    have e := ih (st9 M own P i G) (fun p a b => h1 p (by omega) b) (fun p a b c d => h2 p (by omega) b c d)
    have ei : run (st9 M own P) (i + 1) G i = st9 M own P i G i := run_hi hlt i _ i (Nat.le_refl _)
    have er : run (st9 M own P) (i + 1) G = run (st9 M own P) i (st9 M own P i G) := rfl
    rw [sm, sm, sm, ei, er, ← e]
    by_cases s : S i = true
    · obtain ⟨m, x, hj⟩ := h1 i (by omega) s
      rw [ei, st9_at hlt m] at x
      rw [if_pos s, if_pos s, st9_at hlt m, s, Bool.true_and]
      unfold st9
      rw [if_pos m, if_neg x]
      cases hp : P i with
      | none =>
        rw [if_pos (by rfl), sm_out i (Or.inl (Nat.le_refl _))]
        grind
      | some j =>
        have := hlt i j hp
        rw [if_neg (by simp), sm_upd (hj j hp) i this, sm_out i (Or.inl (Nat.le_refl _))]
        grind
    · have s' : S i = false := by cases h : S i; rfl; exact absurd h s
      rw [if_neg s, if_neg s, s', Bool.false_and, if_neg (by simp)]
      have : sm (st9 M own P i G) S i = sm G S i := by
        unfold st9
        by_cases m : M i = true
        · rw [if_pos m]
          by_cases x : G i + own i ≤ 0
          · rw [if_pos x, sm_out i (Or.inl (Nat.le_refl _))]
          · rw [if_neg x]
            obtain ⟨j, hj, sj⟩ := h2 i (by omega) s' m (by rw [ei, st9_at hlt m]; exact x)
            rw [hj]
            show sm (upd (upd G i _) j _) S i = _
            rw [sm_out i (Or.inr sj), sm_out i (Or.inl (Nat.le_refl _))]
        · rw [if_neg m, sm_out i (Or.inl (Nat.le_refl _))]
      rw [this]
      grind
/-- one step up: is p chosen? -/
def rch : Option Nat → Nat → Bool
  | none, _ => true
  | some j, v => v.testBit j
def pkd (M : Nat → Bool) (F : Nat → Int32) (P : Nat → Option Nat) (p v : Nat) : Bool := M p && !(decide (F p ≤ 0)) && rch (P p) v
def chs (M : Nat → Bool) (F : Nat → Int32) (P : Nat → Option Nat) (p v : Nat) : Nat := if pkd M F P p v = true then v ||| 2 ^ p else v
def asc (M : Nat → Bool) (F : Nat → Int32) (P : Nat → Option Nat) : Nat → Nat → Nat → Nat
  | 0, _, v => v
  | n + 1, i, v => asc M F P n (i + 1) (chs M F P i v)
theorem tb_or {v i q : Nat} : (v ||| 2 ^ i).testBit q = (v.testBit q || decide (i = q)) := by
  rw [Nat.testBit_or, Nat.testBit_two_pow]
theorem chs_lt {M : Nat → Bool} {F : Nat → Int32} {P : Nat → Option Nat} {i v : Nat} (h : v < 2 ^ i) : chs M F P i v < 2 ^ (i + 1) := by
  have h2 : 2 ^ i < 2 ^ (i + 1) := Nat.pow_lt_pow_right (by omega) (by omega)
  unfold chs
  split
  · exact Nat.or_lt_two_pow (by omega) h2
  · omega
theorem chs_at {M : Nat → Bool} {F : Nat → Int32} {P : Nat → Option Nat} {i v : Nat} (h : v < 2 ^ i) : (chs M F P i v).testBit i = pkd M F P i v := by
  unfold chs
  cases hk : pkd M F P i v with
  | true => rw [if_pos rfl, tb_or]; simp
  | false => rw [if_neg (by simp)]; exact Nat.testBit_lt_two_pow h
theorem chs_ne {M : Nat → Bool} {F : Nat → Int32} {P : Nat → Option Nat} {i v q : Nat} (h : q ≠ i) : (chs M F P i v).testBit q = v.testBit q := by
  unfold chs
  split
  · rw [tb_or]; simp; omega
  · rfl
theorem asc_spec {M : Nat → Bool} {F : Nat → Int32} {P : Nat → Option Nat} (hlt : ∀ q j, P q = some j → j < q) : ∀ (n i v : Nat), v < 2 ^ i → asc M F P n i v < 2 ^ (i + n) ∧ (∀ q, q < i → (asc M F P n i v).testBit q = v.testBit q) ∧ ∀ p, i ≤ p → p < i + n → (asc M F P n i v).testBit p = pkd M F P p (asc M F P n i v) := by
  intro n
  induction n with
  | zero => intro i v h; exact ⟨h, fun q _ => rfl, fun p a b => by omega⟩
  | succ n ih =>
    intro i v h
    obtain ⟨a1, a2, a3⟩ := ih (i + 1) (chs M F P i v) (chs_lt h)
    rw [asc]
    refine ⟨by rw [show i + (n + 1) = i + 1 + n by omega]; exact a1, fun q hq => ?_, fun p b1 b2 => ?_⟩
    · rw [a2 q (by omega), chs_ne (by omega)]
    · by_cases z : p = i
      · subst z
        rw [a2 p (by omega), chs_at h]
        unfold pkd
        cases hp : P p with
        | none => rfl
        | some j =>
          have hj := hlt p j hp
          show _ = (M p && !(decide (F p ≤ 0)) && (asc M F P n (p + 1) (chs M F P p v)).testBit j)
          rw [a2 j (by omega), chs_ne (by omega)]; rfl
      · exact a3 p (by omega) (by omega)
/-- the reference's sum on the way up -/
def ascw (M : Nat → Bool) (F : Nat → Int32) (P : Nat → Option Nat) : Nat → Nat → Nat → Int32 → Int32
  | 0, _, _, w => w
  | n + 1, i, v, w => ascw M F P n (i + 1) (chs M F P i v) (if pkd M F P i v = true then w + (if (P i).isNone = true then F i else 0) else w)
theorem ascw_sum {M : Nat → Bool} {F : Nat → Int32} {P : Nat → Option Nat} (hlt : ∀ q j, P q = some j → j < q) : ∀ (n i v : Nat) (w : Int32), v < 2 ^ i → ascw M F P n i v w = w + (sm F (fun p => (asc M F P n i v).testBit p && (P p).isNone) (i + n) - sm F (fun p => (asc M F P n i v).testBit p && (P p).isNone) i) := by
  intro n
  induction n with
  | zero => intro i v w h; show w = w + (_ - _); grind
  | succ n ih =>
    intro i v w h
    obtain ⟨-, a2, -⟩ := asc_spec hlt n (i + 1) (chs M F P i v) (chs_lt h)
    rw [ascw, ih (i + 1) _ _ (chs_lt h), asc, show i + (n + 1) = i + 1 + n by omega]
    rw [sm, a2 i (by omega), chs_at h]
    cases hk : pkd M F P i v with
    | true =>
      rw [if_pos rfl, Bool.true_and]
      grind
    | false =>
      rw [if_neg (by simp), Bool.false_and, if_neg (by simp)]
      grind
theorem worth_sum {M : Nat → Bool} {own : Nat → Int32} {P : Nat → Option Nat} (hlt : ∀ q j, P q = some j → j < q) (k : Nat) (G : Nat → Int32) (hG : ∀ q, q < k → G q = 0) : ascw M (run (st9 M own P) k G) P k 0 0 0 = sm own (fun p => (asc M (run (st9 M own P) k G) P k 0 0).testBit p) k := by
  obtain ⟨a1, a2, a3⟩ := asc_spec (M := M) (F := run (st9 M own P) k G) hlt k 0 0 (by omega)
  rw [ascw_sum hlt k 0 0 0 (by omega), Nat.zero_add]
  generalize asc M (run (st9 M own P) k G) P k 0 0 = C at a1 a2 a3 ⊢
  have e := sum_run (M := M) (own := own) hlt (fun p => C.testBit p) k G (fun p hp hs => ?_) (fun p hp hs hm hx => ?_)
  · rw [show sm (run (st9 M own P) k G) (fun p => C.testBit p && (P p).isNone) 0 = 0 from rfl, ← e]
    have : sm G (fun p => C.testBit p) k = 0 := by
      rw [sm_ext (g := fun _ => 0) k (fun q a _ => hG q a)]
      have : ∀ n, sm (fun _ => 0) (fun p => C.testBit p) n = 0 := by
        intro n
        induction n with
        | zero => rfl
        | succ n ih => rw [sm, ih]; split <;> rfl
      exact this k
    rw [this]
    grind
  · have := a3 p (by omega) (by omega)
    rw [show C.testBit p = true from hs] at this
    unfold pkd at this
    cases hp2 : P p with
    | none =>
      rw [hp2] at this
      simp [rch] at this
      exact ⟨this.1, by simpa using this.2, fun j h => by cases h⟩
    | some j =>
      rw [hp2] at this
      simp [rch] at this
      exact ⟨this.1.1, by simpa using this.1.2, fun j' h => by cases h; exact this.2⟩
  · have := a3 p (by omega) (by omega)
    rw [show C.testBit p = false from hs] at this
    unfold pkd at this
    rw [hm, show decide (run (st9 M own P) k G p ≤ 0) = false from decide_eq_false hx] at this
    cases hp2 : P p with
    | none => rw [hp2] at this; simp [rch] at this
    | some j =>
      rw [hp2] at this
      simp [rch] at this
      exact ⟨j, rfl, this⟩

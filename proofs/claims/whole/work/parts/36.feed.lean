/-! ===== feed ===== -/
theorem nar_byte (x : Int32) : vp_nar .byte x = x.toInt8.toInt32 := rfl
theorem byte_and (y : Int32) : y.toInt8.toInt32 &&& 255 = y &&& 255 := by
  apply Int32.toBitVec_inj.mp
  show (BitVec.signExtend 32 (BitVec.signExtend 8 y.toBitVec)) &&& 255#32 = y.toBitVec &&& 255#32
  generalize y.toBitVec = b
  apply BitVec.eq_of_getLsbD_eq
  intro i hi
  rw [BitVec.getLsbD_and, BitVec.getLsbD_and, BitVec.getLsbD_signExtend]
  by_cases h : i < 8
  · rw [if_pos h, BitVec.getLsbD_signExtend, if_pos hi, decide_eq_true h, decide_eq_true hi, Bool.true_and, Bool.true_and]
  · have : (255#32).getLsbD i = false := by
      have : ∀ j, j < 32 → 8 ≤ j → (255#32).getLsbD j = false := by decide
      exact this i hi (by omega)
    rw [this, Bool.and_false, Bool.and_false]
theorem byte_byte (y : Int32) : y.toInt8.toInt32.toInt8.toInt32 = y.toInt8.toInt32 := by
  simp
theorem and255 (y : Int32) : ∃ b, b < 256 ∧ y &&& 255 = nI b := by
  refine ⟨y.toBitVec.toNat &&& 255, ?_, Int32.toBitVec_inj.mp ?_⟩
  · exact Nat.lt_of_le_of_lt Nat.and_le_right (by omega)
  · show y.toBitVec &&& BitVec.ofNat 32 255 = BitVec.ofNat 32 (y.toBitVec.toNat &&& 255)
    rw [BitVec.ofNat_and, BitVec.ofNat_toNat, BitVec.setWidth_eq]
def cf (s : CS) (v sh : Int32) (n : Nat) : CS := ciU (caU s 15 n (vp_nar .byte (v >>> (sh &&& 31)).toInt8.toInt32)) 6 (nI (n + 1))
def mf (s : MS) (v sh : Int32) (n : Nat) : MS := miU (maU s 30 n ((v >>> (sh &&& 31)) &&& 255)) 2 (nI (n + 1))
theorem feed_RR {cs : CS} {ms : MS} (hR : RR cs ms) {n : Nat} (hn : n < 100) (e : ci cs 6 = nI n) (v sh : Int32) : RR (cf cs v sh n) (mf ms v sh n) := by
  obtain ⟨h1, ⟨n', hn', i1, i2, i3⟩, h3, h4, h5, h6, h7, h8, h9, h10, h11⟩ := hR
  obtain rfl : n = n' := nI_inj (by omega) (by omega) (e.symm.trans i1)
  refine ⟨h1, ⟨n + 1, by omega, rfl, rfl, fun i hi => ?_⟩, h3, h4, h5, h6, h7, h8, h9, h10, h11⟩
  show ∃ b, b < 256 ∧ upd (ma ms 30) n ((v >>> (sh &&& 31)) &&& 255) i = nI b ∧ upd (ca cs 15) n (vp_nar .byte (v >>> (sh &&& 31)).toInt8.toInt32) i &&& 255 = nI b ∧ vp_nar .byte (upd (ca cs 15) n (vp_nar .byte (v >>> (sh &&& 31)).toInt8.toInt32) i) = upd (ca cs 15) n (vp_nar .byte (v >>> (sh &&& 31)).toInt8.toInt32) i
  by_cases q : i = n
  · obtain ⟨b, hb, e⟩ := and255 (v >>> (sh &&& 31))
    refine ⟨b, hb, ?_, ?_, ?_⟩
    · rw [q, upd_eq]; exact e
    · rw [q, upd_eq, nar_byte, byte_byte, byte_and]; exact e
    · rw [q, upd_eq, nar_byte, nar_byte, byte_byte, byte_byte]
  · rw [upd_ne q, upd_ne q]
    exact i3 i (by omega)
def pk5 (v1 v2 v3 v4 v5 : Int32) (k : Nat) : Int32 := if k < 4 then v1 else if k < 8 then v2 else if k < 12 then v3 else if k < 16 then v4 else v5
def cfs (cs : CS) (w : Nat → Int32) (n : Nat) : Nat → CS
  | 0 => cs
  | k + 1 => cf (cfs cs w n k) (w k) (nI (24 - 8 * (k % 4))) (n + k)
def mfs (ms : MS) (w : Nat → Int32) (n : Nat) : Nat → MS
  | 0 => ms
  | k + 1 => mf (mfs ms w n k) (w k) (nI (24 - 8 * (k % 4))) (n + k)
theorem cfs_6 {cs : CS} {w : Nat → Int32} {n : Nat} (e : ci cs 6 = nI n) : ∀ k, ci (cfs cs w n k) 6 = nI (n + k)
  | 0 => e
  | k + 1 => rfl
theorem mfs_2 {ms : MS} {w : Nat → Int32} {n : Nat} (e : mi ms 2 = nI n) : ∀ k, mi (mfs ms w n k) 2 = nI (n + k)
  | 0 => e
  | k + 1 => rfl
theorem fs_RR {cs : CS} {ms : MS} (hR : RR cs ms) {w : Nat → Int32} {n : Nat} (e : ci cs 6 = nI n) : ∀ k, n + k ≤ 100 → RR (cfs cs w n k) (mfs ms w n k)
  | 0, _ => hR
  | k + 1, h => feed_RR (fs_RR hR e k (by omega)) (by omega) (cfs_6 e k) _ _
theorem app_step {cs : CS} {v s : Int32} {n f : Nat} (e : ci cs 6 = nI n) (hn : n < 100) (hs : ¬ s < 0) : f_X4_append_3 (f + 1) cs v s = f_X4_append_3 f (cf cs v s n) v (s + -8) := by
  rw [f_X4_append_3, if_neg hs, e, if_neg (show ¬ nI n < 0 from nI_pos (by omega)), if_neg (show ¬ (100 : Int32) ≤ nI n from nI_ge (b := 100) hn (by omega)), ixr_n hn (by omega), nI_clamp (by omega), show ci (caU cs 15 n (vp_nar .byte (v >>> (s &&& 31)).toInt8.toInt32)) 6 = nI n from e, nI_1]
  rfl
theorem app_n {cs : CS} {v : Int32} {n : Nat} (e : ci cs 6 = nI n) (hn : n + 3 < 100) : f_X4_append cs v = some (cf (cf (cf (cf cs v 24 n) v 16 (n + 1)) v 8 (n + 2)) v 0 (n + 3)) := by
  unfold f_X4_append
  rw [app_step (f := 999) e (by omega) (by decide), show (24 : Int32) + -8 = 16 from rfl, app_step (f := 998) (n := n + 1) rfl (by omega) (by decide), show (16 : Int32) + -8 = 8 from rfl, app_step (f := 997) (n := n + 2) rfl (by omega) (by decide), show (8 : Int32) + -8 = 0 from rfl, app_step (f := 996) (n := n + 3) rfl (by omega) (by decide), f_X4_append_3, if_pos (by decide)]
theorem app_fs {cs : CS} {w : Nat → Int32} {n j : Nat} (e : ci cs 6 = nI n) (hn : n + 4 * j + 3 < 100) (h1 : w (4 * j + 1) = w (4 * j)) (h2 : w (4 * j + 2) = w (4 * j)) (h3 : w (4 * j + 3) = w (4 * j)) : f_X4_append (cfs cs w n (4 * j)) (w (4 * j)) = some (cfs cs w n (4 * j + 4)) := by
  rw [app_n (cfs_6 e (4 * j)) (by omega)]
  show _ = some (cf (cf (cf (cf (cfs cs w n (4 * j)) (w (4 * j)) (nI (24 - 8 * ((4 * j) % 4))) (n + 4 * j)) (w (4 * j + 1)) (nI (24 - 8 * ((4 * j + 1) % 4))) (n + (4 * j + 1))) (w (4 * j + 2)) (nI (24 - 8 * ((4 * j + 2) % 4))) (n + (4 * j + 2))) (w (4 * j + 3)) (nI (24 - 8 * ((4 * j + 3) % 4))) (n + (4 * j + 3)))
  rw [h1, h2, h3, show (4 * j) % 4 = 0 by omega, show (4 * j + 1) % 4 = 1 by omega, show (4 * j + 2) % 4 = 2 by omega, show (4 * j + 3) % 4 = 3 by omega]
  rfl
theorem feed_loop {ms : MS} {v1 v2 v3 v4 v5 : Int32} {n : Nat} (e : mi ms 2 = nI n) (hn : n + 20 ≤ 100) : ∀ f k, k ≤ 20 → 21 ≤ k + f → f_X9_feed_22 f (mfs ms (pk5 v1 v2 v3 v4 v5) n k) v1 v2 v3 v4 v5 (nI k) = some (nI (n + 20), mfs ms (pk5 v1 v2 v3 v4 v5) n 20) := by
  intro f
  induction f with
  | zero => intro k h1 h2; omega
  | succ f ih =>
    intro k h1 h2
    rw [f_X9_feed_22]
    by_cases q : k = 20
    · subst q
      rw [if_pos (by decide), mfs_2 e]
    have hk : k < 20 := by omega
    have e2 := mfs_2 (w := pk5 v1 v2 v3 v4 v5) e k
    have hsh : (24 : Int32) - 8 * (nI k - nI k / 4 * 4) = nI (24 - 8 * (k % 4)) := by
      have : ∀ j, j < 20 → (24 : Int32) - 8 * (nI j - nI j / 4 * 4) = nI (24 - 8 * (j % 4)) := by decide
      exact this k hk
    have key : ∀ v, pk5 v1 v2 v3 v4 v5 k = v → f_X9_feed_75 (f_X9_feed_22 f) (mfs ms (pk5 v1 v2 v3 v4 v5) n k) v1 v2 v3 v4 v5 (nI k) v = some (nI (n + 20), mfs ms (pk5 v1 v2 v3 v4 v5) n 20) := by
      rintro v rfl
      unfold f_X9_feed_75
      rw [e2, ixr_n (by omega) (by omega), nI_clamp (by omega), pi_1, e2, hsh, nI_1, nI_1]
      exact ih (k + 1) (by omega) (by omega)
    have L : ∀ a : Nat, a < 2 ^ 31 → (nI a ≤ nI k ↔ a ≤ k) := fun a ha => nI_le_iff ha (by omega)
    rw [if_neg (show ¬ (20 : Int32) ≤ nI k from fun z => absurd ((L 20 (by omega)).mp z) (by omega))]
    by_cases q1 : 4 ≤ k
    · rw [if_pos (show (4 : Int32) ≤ nI k from (L 4 (by omega)).mpr q1)]
      by_cases q2 : 8 ≤ k
      · rw [if_pos (show (8 : Int32) ≤ nI k from (L 8 (by omega)).mpr q2)]
        by_cases q3 : 12 ≤ k
        · rw [if_pos (show (12 : Int32) ≤ nI k from (L 12 (by omega)).mpr q3)]
          by_cases q4 : 16 ≤ k
          · rw [if_pos (show (16 : Int32) ≤ nI k from (L 16 (by omega)).mpr q4)]
            exact key _ (by unfold pk5; rw [if_neg (by omega), if_neg (by omega), if_neg (by omega), if_neg (by omega)])
          · rw [if_neg (show ¬ (16 : Int32) ≤ nI k from fun z => q4 ((L 16 (by omega)).mp z))]
            exact key _ (by unfold pk5; rw [if_neg (by omega), if_neg (by omega), if_neg (by omega), if_pos (by omega)])
        · rw [if_neg (show ¬ (12 : Int32) ≤ nI k from fun z => q3 ((L 12 (by omega)).mp z))]
          exact key _ (by unfold pk5; rw [if_neg (by omega), if_neg (by omega), if_pos (by omega)])
      · rw [if_neg (show ¬ (8 : Int32) ≤ nI k from fun z => q2 ((L 8 (by omega)).mp z))]
        exact key _ (by unfold pk5; rw [if_neg (by omega), if_pos (by omega)])
    · rw [if_neg (show ¬ (4 : Int32) ≤ nI k from fun z => q1 ((L 4 (by omega)).mp z))]
      exact key _ (by unfold pk5; rw [if_pos (by omega)])
theorem P_feed : H_feed RR := by
  rintro cs ms v1 v2 v3 v4 v5 hR
  have hX0 : RR cs (miU ms 0 0) := hR
  obtain ⟨-, ⟨n, hn, i1, i2, -⟩, -⟩ := id hX0
  unfold f_X8_feed f_X9_feed f_X4_hasRoomToFeed
  rw [i1, i2, show nI n + (20 : Int32) = nI (n + 20) from nI_add n 20]
  by_cases q : n + 20 ≤ 100
  · rw [if_neg (show ¬ (100 : Int32) < nI (n + 20) from nI_nlt (a := 100) q (by omega)), if_pos (show nI (n + 20) ≤ (100 : Int32) from nI_le (b := 100) q (by omega)), some_bind, if_neg one_ne]
    have a0 := app_fs (cs := cs) (w := pk5 v1 v2 v3 v4 v5) (n := n) (j := 0) i1 (by omega) rfl rfl rfl
    have a1 := app_fs (cs := cs) (w := pk5 v1 v2 v3 v4 v5) (n := n) (j := 1) i1 (by omega) rfl rfl rfl
    have a2 := app_fs (cs := cs) (w := pk5 v1 v2 v3 v4 v5) (n := n) (j := 2) i1 (by omega) rfl rfl rfl
    have a3 := app_fs (cs := cs) (w := pk5 v1 v2 v3 v4 v5) (n := n) (j := 3) i1 (by omega) rfl rfl rfl
    have a4 := app_fs (cs := cs) (w := pk5 v1 v2 v3 v4 v5) (n := n) (j := 4) i1 (by omega) rfl rfl rfl
    have b := feed_loop (ms := miU ms 0 0) (v1 := v1) (v2 := v2) (v3 := v3) (v4 := v4) (v5 := v5) i2 q 1000 0 (by omega) (by omega)
    rw [show f_X4_append cs v1 = _ from a0, some_bind, show f_X4_append (cfs cs (pk5 v1 v2 v3 v4 v5) n (4 * 0 + 4)) v2 = _ from a1, some_bind, show f_X4_append (cfs cs (pk5 v1 v2 v3 v4 v5) n (4 * 1 + 4)) v3 = _ from a2, some_bind, show f_X4_append (cfs cs (pk5 v1 v2 v3 v4 v5) n (4 * 2 + 4)) v4 = _ from a3, some_bind, show f_X4_append (cfs cs (pk5 v1 v2 v3 v4 v5) n (4 * 3 + 4)) v5 = _ from a4, some_bind]
    unfold f_X4_fed
    rw [some_bind]
    exact ⟨nI (n + 20), _, _, congrArg (fun z => some (z, cfs cs (pk5 v1 v2 v3 v4 v5) n (4 * 4 + 4))) (cfs_6 i1 _), b, fs_RR hX0 i1 20 (by omega)⟩
  · rw [if_pos (show (100 : Int32) < nI (n + 20) from nI_lt (a := 100) (by omega) (by omega)), if_neg (show ¬ nI (n + 20) ≤ (100 : Int32) from nI_ge (a := 100) (by omega) (by omega)), some_bind, if_pos rfl]
    exact ⟨_, _, _, rfl, rfl, hX0⟩

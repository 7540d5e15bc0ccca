/-! bytes in longs -/
def bvS (w : List Nat) (s x : Nat) : Nat → Nat
  | 0 => 0
  | y + 1 => bvS w s x y + (if 8 * s + y < x then w.getD (8 * s + y) 0 else 0) * 256 ^ y
theorem bvS_s (w : List Nat) (s x y : Nat) : bvS w s x (y + 1) = bvS w s x y + (if 8 * s + y < x then w.getD (8 * s + y) 0 else 0) * 256 ^ y := rfl
theorem bvS_eq {w : List Nat} {s x x' : Nat} : ∀ k, (∀ y, y < k → (8 * s + y < x ↔ 8 * s + y < x')) → bvS w s x k = bvS w s x' k := by
  intro k
  induction k with
  | zero => intro _; rfl
  | succ k ih =>
    intro h
    rw [bvS_s, bvS_s, ih (fun y hy => h y (by omega))]
    have := h k (by omega)
    by_cases c : 8 * s + k < x
    · rw [if_pos c, if_pos (this.mp c)]
    · rw [if_neg c, if_neg (fun q => c (this.mpr q))]
theorem bvS_z {w : List Nat} {s x j : Nat} : ∀ k, j ≤ k → (∀ y, j ≤ y → y < k → ¬ 8 * s + y < x) → bvS w s x k = bvS w s x j := by
  intro k
  induction k with
  | zero => intro h _; rw [show j = 0 by omega]
  | succ k ih =>
    intro h hz
    by_cases c : j = k + 1
    · rw [c]
    · rw [bvS_s, if_neg (hz k (by omega) (by omega)), Nat.zero_mul, Nat.add_zero]
      exact ih (by omega) (fun y a b => hz y a (by omega))
theorem bvS_lt {w : List Nat} {s x : Nat} (hw : ∀ i, w.getD i 0 < 256) : ∀ k, bvS w s x k < 256 ^ k := by
  intro k
  induction k with
  | zero => exact Nat.one_pos
  | succ k ih =>
    rw [bvS_s, Nat.pow_succ]
    have h1 : (if 8 * s + k < x then w.getD (8 * s + k) 0 else 0) ≤ 255 := by
      split
      · have := hw (8 * s + k); omega
      · omega
    have h2 := Nat.mul_le_mul_right (256 ^ k) h1
    omega
theorem bvS_dig {w : List Nat} {s x y : Nat} (hw : ∀ i, w.getD i 0 < 256) : ∀ k, y < k → bvS w s x k / 256 ^ y % 256 = if 8 * s + y < x then w.getD (8 * s + y) 0 else 0 := by
  intro k
  induction k with
  | zero => intro h; omega
  | succ k ih =>
    intro h
    have h1 : (if 8 * s + y < x then w.getD (8 * s + y) 0 else 0) < 256 := by
      split
      · exact hw _
      · decide
    rw [bvS_s]
    by_cases c : y = k
    · subst c
      have := bvS_lt (s := s) (x := x) hw y
      rw [Nat.mul_comm, Nat.add_comm, Nat.mul_add_div (Nat.pow_pos (by decide)), Nat.div_eq_of_lt this, Nat.add_zero, Nat.mod_eq_of_lt h1]
    · have e : 256 ^ k = 256 ^ y * (256 * 256 ^ (k - y - 1)) := by
        rw [show 256 * 256 ^ (k - y - 1) = 256 ^ (k - y - 1 + 1) by rw [Nat.pow_succ, Nat.mul_comm], ← Nat.pow_add]
        congr 1; omega
      have e2 : ∀ c : Nat, c * 256 ^ k = 256 ^ y * (256 * (c * 256 ^ (k - y - 1))) := fun c => by
        rw [e, Nat.mul_left_comm, Nat.mul_left_comm c 256]
      rw [e2, Nat.add_comm, Nat.mul_add_div (Nat.pow_pos (by decide)), Nat.mul_add_mod]
      exact ih (by omega)
theorem p256 (k : Nat) : (256 : Nat) ^ k = 2 ^ (8 * k) := by rw [show (256 : Nat) = 2 ^ 8 from rfl, ← Nat.pow_mul]
theorem bt_lN {a i : Nat} (hi : i < 64) : bt (lN a) i = a.testBit i := by
  unfold bt
  rw [wb_tb, BitVec.getLsbD_ofNat, decide_eq_true hi, Bool.true_and]
theorem bt_ext {x y : Int64} (h : ∀ i, i < 64 → bt x i = bt y i) : x = y := by
  apply Int64.toBitVec_inj.mp
  apply BitVec.eq_of_getLsbD_eq
  intro i hi
  exact h i hi
theorem bt_sr {x : Int64} {i n : Nat} (hn : n < 64) (h : i + n < 64) : bt (sr x (nI n)) i = bt x (i + n) := by
  have e : ∀ n, n < 64 → ((nI n).toInt64 &&& 63).toBitVec.smod 64 = BitVec.ofNat 64 n := by decide +kernel
  unfold bt sr
  rw [Int64.toBitVec_shiftRight, e n hn, BitVec.sshiftRight_eq', BitVec.toNat_ofNat, Nat.mod_eq_of_lt (by omega), BitVec.getLsbD_sshiftRight]
  rw [show decide (64 ≤ i) = false from decide_eq_false (by omega), Bool.not_false, Bool.true_and, if_pos (by omega), Nat.add_comm]
theorem sr_and {V y : Nat} (hy : y < 8) : (sr (lN V) (nI (8 * y)) &&& 255).toInt32 = nI (V / 256 ^ y % 256) := by
  have h : sr (lN V) (nI (8 * y)) &&& 255 = lN (V / 256 ^ y % 256) := by
    refine bt_ext (fun i hi => ?_)
    rw [bt_and, bt_lN hi, p256, show (256 : Nat) = 2 ^ 8 from rfl, Nat.testBit_mod_two_pow, Nat.testBit_div_two_pow, show (255 : Int64) = lN (2 ^ 8 - 1) from rfl, bt_lN hi, Nat.testBit_two_pow_sub_one]
    by_cases c : i < 8
    · rw [decide_eq_true c, Bool.and_true, Bool.true_and, bt_sr (by omega) (by omega), bt_lN (by omega)]
    · rw [decide_eq_false c, Bool.and_false, Bool.false_and]
  rw [h, lN_i]
theorem or_byte {V b y : Nat} (hV : V < 256 ^ y) (hb : b < 256) (hy : y < 8) : lN V ||| sl (nI b).toInt64 (nI (8 * y)) = lN (V + b * 256 ^ y) := by
  have e1 : (nI b).toInt64 = lN b := nI_l (by omega)
  have e2 : sl (lN b) (nI (8 * y)) = lN (b * 2 ^ (8 * y)) := wb_shl b (by omega)
  rw [e1, e2, p256]
  rw [p256] at hV
  refine g_or' (k := 8 * y) rfl hV ?_
  have h1 : b * 2 ^ (8 * y) ≤ 255 * 2 ^ (8 * y) := Nat.mul_le_mul_right _ (by omega)
  have h2 : 2 ^ (8 * y) ≤ 2 ^ 56 := Nat.pow_le_pow_right (by decide) (by omega)
  have h3 : 256 * 2 ^ (8 * y) ≤ 256 * 2 ^ 56 := Nat.mul_le_mul_left _ h2
  have h4 : 256 * 2 ^ 56 = 2 ^ 64 := by decide
  omega

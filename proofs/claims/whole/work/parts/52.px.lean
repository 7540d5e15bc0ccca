/-! bits of a long -/
def bt (x : Int64) (i : Nat) : Bool := x.toBitVec.getLsbD i
theorem bt_and (x y : Int64) (i : Nat) : bt (x &&& y) i = (bt x i && bt y i) := by unfold bt; rw [Int64.toBitVec_and, BitVec.getLsbD_and]
theorem bt_or (x y : Int64) (i : Nat) : bt (x ||| y) i = (bt x i || bt y i) := by unfold bt; rw [Int64.toBitVec_or, BitVec.getLsbD_or]
theorem bt_xor (x y : Int64) (i : Nat) : bt (x ^^^ y) i = (bt x i ^^ bt y i) := by unfold bt; rw [Int64.toBitVec_xor, BitVec.getLsbD_xor]
theorem bt_m1 {i : Nat} (h : i < 64) : bt (-1) i = true := by
  unfold bt
  rw [show (-1 : Int64).toBitVec = BitVec.allOnes 64 by decide, BitVec.getLsbD_allOnes]
  exact decide_eq_true h
theorem bt_0 (i : Nat) : bt 0 i = false := by
  unfold bt
  rw [show (0 : Int64).toBitVec = 0#64 by decide, BitVec.getLsbD_zero]
theorem bt_not {x : Int64} {i : Nat} (h : i < 64) : bt (x ^^^ (-1)) i = !bt x i := by rw [bt_xor, bt_m1 h, Bool.xor_true]
theorem bt_sl {x : Int64} {i n : Nat} (h : i < 64) (hn : n < 64) : bt (sl x (nI n)) i = (decide (n ≤ i) && bt x (i - n)) := by
  have e : ∀ n, n < 64 → ((nI n).toInt64 &&& 63).toBitVec.smod 64 = BitVec.ofNat 64 n := by decide +kernel
  unfold bt sl
  rw [Int64.toBitVec_shiftLeft, e n hn, BitVec.shiftLeft_eq', BitVec.toNat_ofNat, Nat.mod_eq_of_lt (by omega), BitVec.getLsbD_shiftLeft, decide_eq_true h, Bool.true_and]
  by_cases c : n ≤ i
  · rw [decide_eq_true c, decide_eq_false (by omega)]; rfl
  · rw [decide_eq_false c, decide_eq_true (by omega)]; rfl
def cy (x y : Int64) (i : Nat) : Bool := BitVec.carry i x.toBitVec y.toBitVec false
theorem bt_add (x y : Int64) {i : Nat} (h : i < 64) : bt (x + y) i = (bt x i ^^ (bt y i ^^ cy x y i)) := by
  unfold bt cy
  rw [Int64.toBitVec_add, BitVec.getLsbD_add h]
theorem cy_0 (x y : Int64) : cy x y 0 = false := by
  unfold cy
  rw [BitVec.carry_zero]
theorem cy_s (x y : Int64) (i : Nat) : cy x y (i + 1) = Bool.atLeastTwo (bt x i) (bt y i) (cy x y i) := by
  unfold cy bt
  rw [BitVec.carry_succ]
theorem bt_eq0 {x : Int64} : x = 0 ↔ ∀ i, i < 64 → bt x i = false := by
  constructor
  · intro h i _; rw [h, bt_0]
  · intro h
    apply Int64.toBitVec_inj.mp
    apply BitVec.eq_of_getLsbD_eq
    intro i hi
    have := h i hi
    unfold bt at this
    rw [this, show (0 : Int64).toBitVec = 0#64 by decide, BitVec.getLsbD_zero]
theorem bt_1 (i : Nat) : bt 1 i = decide (i = 0) := by
  unfold bt
  rw [show (1 : Int64).toBitVec = 1#64 by decide, BitVec.getLsbD_one]
  simp
theorem bt_bit {x : Int64} {n : Nat} (hn : n < 64) : (x &&& sl 1 (nI n)) = 0 ↔ bt x n = false := by
  rw [bt_eq0]
  constructor
  · intro h
    have := h n hn
    rw [bt_and, bt_sl hn hn, decide_eq_true (Nat.le_refl n), Nat.sub_self, bt_1] at this
    simpa using this
  · intro h i hi
    rw [bt_and, bt_sl hi hn, bt_1]
    by_cases c : i = n
    · subst c; rw [h, Bool.false_and]
    · by_cases d : n ≤ i
      · rw [decide_eq_false (show ¬ i - n = 0 by omega), Bool.and_false, Bool.and_false]
      · rw [decide_eq_false d, Bool.false_and, Bool.and_false]
/-! the table of distances -/
def lvS (r t : Nat → Nat) (x i1 : Nat) : Nat → Nat
  | 0 => i1
  | j + 1 => min (min (r j + (if x = t j then 0 else 1)) (r (j + 1) + 1)) (lvS r t x i1 j + 1)
def lev (p t : Nat → Nat) : Nat → Nat → Nat
  | 0 => fun j => j
  | i + 1 => lvS (lev p t i) t (p i) (i + 1)
theorem lev_s (p t : Nat → Nat) (i j : Nat) : lev p t (i + 1) (j + 1) = min (min (lev p t i j + (if p i = t j then 0 else 1)) (lev p t i (j + 1) + 1)) (lev p t (i + 1) j + 1) := rfl
theorem lev_0 (p t : Nat → Nat) (j : Nat) : lev p t 0 j = j := rfl
theorem lev_z (p t : Nat → Nat) (i : Nat) : lev p t i 0 = i := by cases i <;> rfl
theorem lev_sym (p t : Nat → Nat) : ∀ i j, lev p t i j = lev t p j i := by
  intro i
  induction i with
  | zero => intro j; rw [lev_0, lev_z]
  | succ i ih =>
    intro j
    induction j with
    | zero => rw [lev_0, lev_z]
    | succ j ihj =>
      rw [lev_s, lev_s, ih j, ih (j + 1), ihj]
      by_cases c : p i = t j
      · rw [if_pos c, if_pos c.symm]; omega
      · rw [if_neg c, if_neg (fun q => c q.symm)]; omega
theorem lev_b (p t : Nat → Nat) : ∀ i j, lev p t i j ≤ i + j ∧ i ≤ lev p t i j + j ∧ j ≤ lev p t i j + i := by
  intro i
  induction i with
  | zero => intro j; rw [lev_0]; omega
  | succ i ih =>
    intro j
    induction j with
    | zero => rw [lev_z]; omega
    | succ j ihj =>
      have h1 := ih j
      have h2 := ih (j + 1)
      rw [lev_s]
      by_cases c : p i = t j
      · rw [if_pos c]; omega
      · rw [if_neg c]; omega
/-- a column told by its rises and its falls -/
def Col (c : Nat → Nat) (P N : Int64) : Prop := ∀ i, i < 64 → (bt P i = decide (c (i + 1) = c i + 1)) ∧ (bt N i = decide (c i = c (i + 1) + 1)) ∧ c (i + 1) ≤ c i + 1 ∧ c i ≤ c (i + 1) + 1
theorem col_step {c d : Nat → Nat} {P N E : Int64} {e : Nat → Bool} (hc : Col c P N) (he : ∀ i, i < 64 → bt E i = e i) (d0 : d 0 = c 0 + 1) (ds : ∀ i, d (i + 1) = min (min (c i + (if e i = true then 0 else 1)) (c (i + 1) + 1)) (d i + 1)) :
    let X := (((E &&& P) + P) ^^^ P) ||| E
    let A := N ||| ((X ||| P) ^^^ (-1))
    let B := P &&& X
    let A' := (sl A 1) ||| 1
    Col d ((sl B 1) ||| (((E ||| N) ||| A') ^^^ (-1))) (A' &&& (E ||| N)) ∧ ∀ i, i < 64 → bt A i = decide (d (i + 1) = c (i + 1) + 1) ∧ bt B i = decide (c (i + 1) = d (i + 1) + 1) ∧ d (i + 1) ≤ c (i + 1) + 1 ∧ c (i + 1) ≤ d (i + 1) + 1 := by
  intro X A B A'
  have bX : ∀ i, i < 64 → bt X i = (bt E i || cy (E &&& P) P i) := fun i hi => by
    show bt ((((E &&& P) + P) ^^^ P) ||| E) i = _
    rw [bt_or, bt_xor, bt_add _ _ hi, bt_and]
    cases bt E i <;> cases bt P i <;> cases cy (E &&& P) P i <;> rfl
  have cs : ∀ i, cy (E &&& P) P (i + 1) = (bt P i && (bt E i || cy (E &&& P) P i)) := fun i => by
    rw [cy_s, bt_and]
    cases bt E i <;> cases bt P i <;> cases cy (E &&& P) P i <;> rfl
  have bA : ∀ i, i < 64 → bt A i = (bt N i || !(bt X i || bt P i)) := fun i hi => by
    show bt (N ||| ((X ||| P) ^^^ (-1))) i = _
    rw [bt_or, bt_not hi, bt_or]
  have bB : ∀ i, bt B i = (bt P i && bt X i) := fun i => bt_and _ _ _
  have main : ∀ i, i ≤ 64 → (cy (E &&& P) P i = decide (c i = d i + 1)) ∧ d i ≤ c i + 1 ∧ c i ≤ d i + 1 ∧ ∀ k, k < i → bt A k = decide (d (k + 1) = c (k + 1) + 1) ∧ bt B k = decide (c (k + 1) = d (k + 1) + 1) ∧ d (k + 1) ≤ c (k + 1) + 1 ∧ c (k + 1) ≤ d (k + 1) + 1 := by
    intro i
    induction i with
    | zero =>
      intro _
      rw [cy_0, d0]
      exact ⟨(decide_eq_false (by omega)).symm, by omega, by omega, fun k hk => absurd hk (Nat.not_lt_zero k)⟩
    | succ i ih =>
      intro hi
      obtain ⟨h1, h2, h3, h4⟩ := ih (by omega)
      obtain ⟨p1, p2, p3, p4⟩ := hc i (by omega)
      have hE := he i (by omega)
      have hd := ds i
      have hA := bA i (by omega)
      have hB := bB i
      rw [bX i (by omega), p1, p2, h1, hE] at hA
      rw [bX i (by omega), p1, h1, hE] at hB
      have hcs := cs i
      rw [p1, h1, hE] at hcs
      have x1 : bt A i = decide (d (i + 1) = c (i + 1) + 1) := by
        rw [hA]
        generalize e i = z at hd
        cases z
        · rw [if_neg (by decide)] at hd
          rw [Bool.eq_iff_iff]
          simp
          omega
        · rw [if_pos rfl] at hd
          rw [Bool.eq_iff_iff]
          simp
          omega
      have x2 : (decide (c (i + 1) = c i + 1) && (e i || decide (c i = d i + 1))) = decide (c (i + 1) = d (i + 1) + 1) := by
        generalize e i = z at hd
        cases z
        · rw [if_neg (by decide)] at hd
          rw [Bool.eq_iff_iff]
          simp
          omega
        · rw [if_pos rfl] at hd
          rw [Bool.eq_iff_iff]
          simp
          omega
      have x3 : d (i + 1) ≤ c (i + 1) + 1 ∧ c (i + 1) ≤ d (i + 1) + 1 := by
        split at hd <;> omega
      refine ⟨hcs.trans x2, x3.1, x3.2, fun k hk => ?_⟩
      by_cases z : k = i
      · subst z; exact ⟨x1, hB.trans x2, x3⟩
      · exact h4 k (by omega)
  obtain ⟨-, -, -, m4⟩ := main 64 (Nat.le_refl _)
  refine ⟨fun i hi => ?_, m4⟩
  obtain ⟨p1, p2, p3, p4⟩ := hc i hi
  have hE := he i hi
  have hd := ds i
  have hs : d i ≤ c i + 1 ∧ c i ≤ d i + 1 := (main i (by omega)).2.1 |> fun q => ⟨q, (main i (by omega)).2.2.1⟩
  have bA' : bt A' i = decide (d i = c i + 1) := by
    show bt ((sl A (nI 1)) ||| 1) i = _
    rw [bt_or, bt_sl hi (by decide), bt_1]
    cases i with
    | zero => rw [d0]; simp
    | succ i => rw [show i + 1 - 1 = i from rfl, (m4 i (by omega)).1]; simp
  have bB' : bt (sl B 1) i = decide (c i = d i + 1) := by
    show bt (sl B (nI 1)) i = _
    rw [bt_sl hi (by decide)]
    cases i with
    | zero => rw [d0]; simp; omega
    | succ i => rw [show i + 1 - 1 = i from rfl, (m4 i (by omega)).2.1]; simp
  refine ⟨?_, ?_, ?_, ?_⟩
  · rw [bt_or, bt_not hi, bt_or, bt_or, bA', bB', p2, hE, Bool.eq_iff_iff]
    generalize e i = z at hd
    cases z
    · rw [if_neg (by decide)] at hd
      simp
      omega
    · rw [if_pos rfl] at hd
      simp
      omega
  · rw [bt_and, bA', bt_or, p2, hE, Bool.eq_iff_iff]
    generalize e i = z at hd
    cases z
    · rw [if_neg (by decide)] at hd
      simp
      omega
    · rw [if_pos rfl] at hd
      simp
      omega
  · split at hd <;> omega
  · split at hd <;> omega

/-! ===== signs of five bits ===== -/
theorem sgn_lt {k : Nat} (h : isLt k) : sgn k < 32 ∧ 0 < sgn k := by
  unfold sgn
  rcases h with rfl | h
  · decide
  · rw [if_neg (by omega)]; omega
theorem pkN_lt : ∀ (j : Nat) (w : List Nat), (∀ k ∈ w, isLt k) → pkN w j < 32 ^ j := by
  intro j
  induction j with
  | zero => intro w _; cases w <;> simp [pkN]
  | succ j ih =>
    intro w hw
    cases w with
    | nil => simp only [pkN]; exact Nat.pow_pos (by decide)
    | cons k w =>
      simp only [pkN]
      have h1 := ih w (fun x hx => hw x (List.mem_cons_of_mem _ hx))
      have h2 := (sgn_lt (hw k List.mem_cons_self)).1
      have h3 : sgn k * 32 ^ j + 32 ^ j ≤ 32 * 32 ^ j := by
        have := Nat.mul_le_mul_right (32 ^ j) (show sgn k + 1 ≤ 32 by omega)
        rw [Nat.add_mul, Nat.one_mul] at this
        exact this
      have h4 := Nat.mul_comm (32 ^ j) 32
      rw [Nat.pow_succ]
      omega
/-- the sign at place i, 0 behind the end -/
def sgA (w : List Nat) (i : Nat) : Nat := match w[i]? with
  | some k => sgn k
  | none => 0
theorem pkN_nil (j : Nat) : pkN [] j = 0 := by cases j <;> rfl
theorem pkN_dig : ∀ (j : Nat) (w : List Nat) (i : Nat), (∀ k ∈ w, isLt k) → i < j → pkN w j / 32 ^ (j - 1 - i) % 32 = sgA w i := by
  intro j
  induction j with
  | zero => intro w i _ h; omega
  | succ j ih =>
    intro w i hw hi
    cases w with
    | nil => rw [pkN_nil]; simp [sgA]
    | cons k w =>
      have hw' : ∀ x ∈ w, isLt x := fun x hx => hw x (List.mem_cons_of_mem _ hx)
      have h2 := (sgn_lt (hw k List.mem_cons_self)).1
      have h1 := pkN_lt j w hw'
      simp only [pkN]
      cases i with
      | zero =>
        rw [show j + 1 - 1 - 0 = j by omega, Nat.mul_comm, Nat.mul_add_div (Nat.pow_pos (by decide)), Nat.div_eq_of_lt h1, Nat.add_zero, Nat.mod_eq_of_lt h2]
        rfl
      | succ i =>
        rw [show j + 1 - 1 - (i + 1) = j - 1 - i by omega]
        have e : 32 ^ j = 32 ^ (j - 1 - i) * (32 * 32 ^ i) := by
          rw [show 32 * 32 ^ i = 32 ^ (i + 1) by rw [Nat.pow_succ, Nat.mul_comm], ← Nat.pow_add]
          congr 1; omega
        rw [e, ← Nat.mul_assoc, Nat.mul_comm (sgn k), Nat.mul_assoc, Nat.mul_add_div (Nat.pow_pos (by decide)), show sgn k * (32 * 32 ^ i) = 32 * (sgn k * 32 ^ i) by rw [← Nat.mul_assoc, Nat.mul_comm (sgn k) 32, Nat.mul_assoc], Nat.mul_add_mod, ih w i hw' (by omega)]
        rfl
theorem pkw_lt {w : List Nat} {i : Nat} (hw : ∀ k ∈ w, isLt k) : pkN (w.drop (12 * i)) 12 < 2 ^ 60 := pkN_lt 12 _ (fun k hk => hw k (List.mem_of_mem_drop hk))
theorem sgA_drop {w : List Nat} {m i : Nat} : sgA (w.drop m) i = sgA w (m + i) := by unfold sgA; rw [List.getElem?_drop]
theorem ur_ok {a k : Nat} (ha : a < 2 ^ 64) (hk : k < 64) : ur (lN a) (nI k) = lN (a / 2 ^ k) := wb_shr ha hk
theorem lN_and31 {a : Nat} : (lN a).toInt32 &&& 31 = nI (a % 32) := by
  rw [lN_i, show (31 : Int32) = nI 31 from rfl, nx_and]
  congr 1
  exact Nat.and_two_pow_sub_one_eq_mod a 5
/-- the sign that stands at place j of the i-th long -/
theorem sign_ok {F i j : Nat} {w : List Nat} {M : zM} (hw : ∀ k ∈ w, isLt k) (hj : j < 12) : Lin_signIn F (pk w i) (nI (55 - 5 * j)) M = some (nI (sgA w (12 * i + j)), M) := by
  unfold Lin_signIn pk
  have h := pkw_lt (i := i) hw
  rw [ur_ok (by omega) (by omega), lN_and31]
  congr 2
  have e := pkN_dig 12 (w.drop (12 * i)) j (fun k hk => hw k (List.mem_of_mem_drop hk)) hj
  rw [show (2 : Nat) ^ (55 - 5 * j) = 32 ^ (12 - 1 - j) by rw [show (32 : Nat) = 2 ^ 5 from rfl, ← Nat.pow_mul]; congr 1; omega, e, sgA_drop]
theorem byteOf_ok {F k : Nat} {M : zM} (h : isLt k) : Lin_byteOf F (nI (sgn k)) M = some (nI k, M) := by
  unfold Lin_byteOf sgn
  rcases h with rfl | h
  · rfl
  · rw [if_neg (by omega : ¬ k = 32), if_neg (fun e => by have := (nI_eq (a := k - 95) (b := 1) (by omega) (by decide)).mp e; omega), show (95 : Int32) = nI 95 from rfl, nI_add]
    congr 3; omega
/-- the signs of a row as they stand -/
theorem signs_ok {F a n i : Nat} {M : zM} (hN : 5 * n + i < zN (a + 1)) (hN2 : zN (a + 1) < 2 ^ 31) : Spe_signs F a (nI n) (nI i) M = some (M.2 (a + 1) (5 * n + i), M) := by
  have e : nI n * 5 + nI i = nI (5 * n + i) := by rw [show (5 : Int32) = nI 5 from rfl, pk_mul, nI_add, Nat.mul_comm]
  show (if nI n * 5 + nI i < 0 then some ((0 : Int64), M) else if nI (zN (a + 1)) ≤ nI n * 5 + nI i then some (0, M) else if inb (nI n * 5 + nI i) (zN (a + 1)) = true then some (M.2 (a + 1) (nI n * 5 + nI i).toNatClampNeg, M) else none) = _
  rw [e, if_neg (nI_pos (by omega)), if_neg (nI_ge hN hN2), if_pos (inb_nI hN hN2), nI_clamp (by omega)]
theorem zN_names {t : Nat} (ht : t < 3) : zN (14 + 10 * t + 1 + 1) = 5000 ∧ zN (14 + 10 * t + 3 + 1) = 5000 := ⟨zN_nm (zK_t ht), zN_rn (zK_t ht)⟩
theorem name_at {F t n i : Nat} {T : Tn} {w : List Nat} {b d : Nat} {M : zM} (h : XT (14 + 10 * t) T M) (ht : t < 3) (hn : n < 1000) (hq : T.2 n = some (w, b, d)) (hi : i < w.length) : Spe_byteAt F (14 + 10 * t + 1) (nI n) (nI i) M = some (nI (w.getD i 0), M) := by
  have hx := h.2.2.2.1 n hn
  unfold XN at hx
  rw [hq] at hx
  obtain ⟨ok, -, -, -, -, -, -, -, hp, -⟩ := hx
  have h60 := ok.1
  unfold Spe_byteAt
  have e1 : nI i / 12 = nI (i / 12) := pk_div (a := i) (d := 12) (by omega) (by decide) (by decide)
  have e2 : nI i - nI i / 12 * 12 = nI (i % 12) := pk_rem (a := i) (d := 12) (by omega) (by decide) (by decide)
  have e3 : (55 : Int32) - 5 * nI (i % 12) = nI (55 - 5 * (i % 12)) := by
    rw [show (5 : Int32) = nI 5 from rfl, show (55 : Int32) = nI 55 from rfl, pk_mul, pk_sub (by omega)]
  rw [e2, e1, signs_ok (by rw [(zN_names ht).1]; omega) (by rw [(zN_names ht).1]; decide), Option.bind_some]
  dsimp only
  rw [e3, hp (i / 12) (by omega), sign_ok ok.2 (Nat.mod_lt _ (by decide)), Option.bind_some]
  dsimp only
  have e4 : 12 * (i / 12) + i % 12 = i := Nat.div_add_mod i 12
  have e5 : sgA w i = sgn (w.getD i 0) := by
    unfold sgA
    rw [List.getD_eq_getElem?_getD, List.getElem?_eq_getElem hi]
    rfl
  have hm : w.getD i 0 ∈ w := by
    rw [List.getD_eq_getElem?_getD, List.getElem?_eq_getElem hi]
    exact List.getElem_mem hi
  rw [e4, e5, byteOf_ok (ok.2 _ hm), Option.bind_some]
/-- byte i of a name, how many it has -/
def spName (T : Tn) (n : Nat) (x : Int32) : Int32 := onm (T.2 n) (fun q => if x = -1 then nI q.1.length else if inb x q.1.length = true then nI (q.1.getD x.toNatClampNeg 0) else -1)
theorem sizeOrByte_ok {F t n : Nat} {T : Tn} {x : Int32} {M : zM} (h : XT (14 + 10 * t) T M) (ht : t < 3) (hn : n < 1000) : Ton_sizeOrByte F (14 + 10 * t) (nI n) x M = some (spName T n x, M) := by
  unfold Ton_sizeOrByte spName
  have hs := (get5 (F := F) h hn).1
  rw [hs]
  unfold nmI
  have hx := h.2.2.2.1 n hn
  cases e : T.2 n with
  | none =>
    by_cases c1 : x = -1
    · simp [c1, onm]
    · by_cases c2 : x < 0
      · simp [c1, c2, onm]
      · have c3 : (-1 : Int32) ≤ x := by
          rw [Int32.le_iff_toInt_le]; rw [Int32.lt_iff_toInt_lt] at c2
          have e1 : (-1 : Int32).toInt = -1 := by decide
          have e0 : (0 : Int32).toInt = 0 := by decide
          omega
        simp [c1, c2, onm, c3]
  | some q =>
    obtain ⟨w, b, d⟩ := q
    unfold XN at hx
    rw [e] at hx
    have h60 := hx.1.1
    by_cases c1 : x = -1
    · simp [c1, onm]
    · by_cases c2 : x < 0
      · have : inb x w.length = false := by
          cases q : inb x w.length with
          | false => rfl
          | true => obtain ⟨j, hj, rfl⟩ := inb_of q (by omega); exact absurd c2 (nI_pos (by omega))
        simp [c1, c2, onm, this]
      · cases q : inb x w.length with
        | true =>
          obtain ⟨j, hj, rfl⟩ := inb_of q (by omega)
          simp [c1, c2, onm, q, nI_ge hj (by omega), name_at (F := F) h ht hn e hj, nI_clamp (n := j) (by omega)]
        | false =>
          rcases inb_f q with c | c
          · exact absurd c c2
          · simp [c1, c2, onm, q, c (by omega)]
theorem Mod_byteOf_ok {F at0 i : Nat} {M : zM} (ha : at0 < 3000) (hi : i < 64) : Mod_byteOf F (nI at0) (nI i) M = some (mB M at0 i, M) := by
  unfold Mod_byteOf mB
  have e1 : nI i / 8 = nI (i / 8) := pk_div (a := i) (d := 8) (by omega) (by decide) (by decide)
  have e2 : nI i - nI i / 8 * 8 = nI (i % 8) := pk_rem (a := i) (d := 8) (by omega) (by decide) (by decide)
  have e3 : (8 : Int32) * nI at0 + nI (i / 8) = nI (8 * at0 + i / 8) := by rw [show (8 : Int32) = nI 8 from rfl, pk_mul, nI_add]
  have e4 : (8 : Int32) * nI (i % 8) = nI (8 * (i % 8)) := by rw [show (8 : Int32) = nI 8 from rfl, pk_mul]
  rw [e2, e1, e3, e4, if_pos (inb_nI (by omega) (by decide)), nI_clamp (by omega)]
theorem in_sub1 {x : Int32} {n : Nat} (hn : n < 2 ^ 31) : decide ((0 : Int64) ≤ x.toInt64 ∧ x.toInt64 ≤ (nI n - 1).toInt64) = inb x n := by
  refine in_inb (n := n) ?_
  have e : (nI n - 1).toInt64.toInt = (nI n - 1).toInt := by simp
  rw [e]
  cases n with
  | zero => decide
  | succ n => rw [nI_pred, nI_toInt (by omega)]; omega
theorem Mod_name_in {F t n : Nat} {q : Option Nm} {x : Int32} {M : zM} (h : MN (1000 * t + n) q M) (hq : ∀ z, q = some z → z.1.length ≤ 60) (ht : t < 3) (hn : n < 1000) : (if x = (-1) then
        if inb (nI (1000 * t + n)) 3000 = true then
          some (M.1 74 (nI (1000 * t + n)).toNatClampNeg, M)
        else none
      else
        if inb (nI (1000 * t + n)) 3000 = true then
          (Mod_in F x.toInt64 0 (((M.1 74 (nI (1000 * t + n)).toNatClampNeg) - 1).toInt64) M).bind fun (r_13, M_14) =>
          if r_13 = 0 then
            some ((-1), M_14)
          else
            (Mod_byteOf F (nI (1000 * t + n)) x M_14).bind fun (r_17, M_18) =>
            some (r_17, M_18)
        else none) = some (onm q (fun q => if x = -1 then nI q.1.length else if inb x q.1.length = true then nI (q.1.getD x.toNatClampNeg 0) else -1), M) := by
  have e1 : inb (nI (1000 * t + n)) 3000 = true := inb_nI (by omega) (by decide)
  have e2 : (nI (1000 * t + n)).toNatClampNeg = 1000 * t + n := nI_clamp (by omega)
  rw [e2, e1, (getM h).1]
  cases q with
  | none =>
    by_cases c1 : x = -1
    · simp [c1, onm]
    · have c3 : decide ((0 : Int64) ≤ x.toInt64 ∧ x.toInt64 ≤ ((-1 : Int32) - 1).toInt64) = false := by
        refine decide_eq_false (fun c => ?_)
        have h1 := c.1; have h2 := c.2
        rw [Int64.le_iff_toInt_le] at h1 h2
        have e5 : ((-1 : Int32) - 1).toInt64.toInt = -2 := by decide
        have e0 : (0 : Int64).toInt = 0 := by decide
        omega
      simp only [onm, if_true]
      rw [if_neg c1, Mod_in_ok, c3, Option.bind_some]
      rfl
  | some z =>
    obtain ⟨w, b, d⟩ := z
    have h60 : w.length ≤ 60 := hq _ rfl
    simp only [onm, if_true]
    by_cases c1 : x = -1
    · rw [if_pos c1, if_pos c1]
    · rw [if_neg c1, if_neg c1, Mod_in_ok, in_sub1 (by omega), Option.bind_some]
      cases c : inb x w.length with
      | false => rfl
      | true =>
        obtain ⟨j, hj, rfl⟩ := inb_of c (by omega)
        show (Mod_byteOf F (nI (1000 * t + n)) (nI j) M).bind _ = _
        rw [Mod_byteOf_ok (by omega) (by omega), Option.bind_some, nI_clamp (by omega)]
        dsimp only
        rw [if_pos rfl, h.2.2.2.2 j hj]
theorem ok_name {F : Nat} (x y z : Int32) : Good (NW_name F x y z) (Mod_name F x y z) := by
  cases h1 : inb x 3 with
  | false => exact mkGood0 (fun _ => -1001) (fun S M h => by simp [NW_name, NW_isTongue_ok, h1, bI]) (fun S M h0 h => by simp [Mod_name, Mod_isTongue_ok, h1, bI])
  | true =>
    cases h2 : inb y 1000 with
    | false => exact mkGood0 (fun _ => -1001) (fun S M h => by simp [NW_name, NW_isTongue_ok, NW_isNumber_ok, h1, h2, bI]) (fun S M h0 h => by simp [Mod_name, Mod_isTongue_ok, Mod_isNumber_ok, h1, h2, bI])
    | true =>
      obtain ⟨t, ht, rfl⟩ := inb_of h1 (by decide)
      obtain ⟨n, hn, rfl⟩ := inb_of h2 (by decide)
      refine mkGood0 (fun S => spName (S.2.2.1 t) n z) (fun S M h => ?_) (fun S M h0 h => ?_)
      · simp [NW_name, NW_isTongue_ok, NW_isNumber_ok, h1, h2, bI, tgA_n t ht, sizeOrByte_ok (F := F) (h.2.2.2.2.2.1 t ht) ht hn]
      · have key := Mod_name_in (F := F) (x := z) ((h.2.2.2.1 t ht).2 n hn) (fun z hz => ((h0.2.2.1 t ht).2 n hn z.1 z.2.1 z.2.2 hz).1.1) ht hn
        unfold Mod_name
        rw [Mod_isTongue_ok, h1, Option.bind_some]
        dsimp only
        rw [if_neg (by decide), Mod_isNumber_ok, h2, Option.bind_some]
        dsimp only [lt]
        rw [if_neg (by decide), ix_t]
        exact key

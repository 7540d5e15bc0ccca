theorem abL_ok (x : Int32) : lg_cmp (jabL x.toInt64) 1000 < 0 ↔ ((-999 : Int64) ≤ x.toInt64 ∧ x.toInt64 ≤ 999) := by
  have e : x.toInt64.toInt = x.toInt := by simp
  have b1 := Int32.le_toInt x
  have b2 := Int32.toInt_lt x
  have e1 : (-999 : Int64).toInt = -999 := by decide
  have e2 : (999 : Int64).toInt = 999 := by decide
  have e3 : (1000 : Int64).toInt = 1000 := by decide
  have e4 : (0 : Int64).toInt = 0 := by decide
  rw [cmp_lt, Int64.le_iff_toInt_le, Int64.le_iff_toInt_le, Int64.lt_iff_toInt_lt, e1, e2, e3, e]
  unfold jabL
  by_cases c : 0 < x.toInt64
  · rw [if_pos c, e]
    rw [Int64.lt_iff_toInt_lt, e4, e] at c
    omega
  · rw [if_neg c, Int64.toInt_neg, e]
    rw [Int64.lt_iff_toInt_lt, e4, e] at c
    rw [Int.bmod_eq_of_le (by omega) (by omega)]
    omega
theorem not_neg {z : Int32} : 0 ≤ z ↔ ¬ z < 0 := by
  rw [Int32.le_iff_toInt_le, Int32.lt_iff_toInt_lt]; omega
def sqU (a b c : Int32) (i : Nat) : Nat := (sqV a b c i).toNatClampNeg
def sqN (a b c : Int32) : Bool := allN (fun i => inb (sqV a b c i) 1000) 9
theorem sqU_ok {a b c : Int32} (h : sqN a b c = true) : ∀ i, i < 9 → sqU a b c i < 1000 ∧ sqV a b c i = nI (sqU a b c i) := fun i hi => by
  have := (allN_iff _ 9).mp h i hi
  obtain ⟨j, hj, e⟩ := inb_of this (by decide)
  unfold sqU
  rw [e, nI_clamp (by omega)]
  exact ⟨hj, rfl⟩
theorem wrX {S : Sp} {M : zM} {v : Nat → Int32} (h : RX S M) : RX S (wr9 M 62 v 9) ∧ sameHi M (wr9 M 62 v 9) := ⟨h.keep (fun b hb _ => ⟨wr9_o (by omega) 9, by rw [wr9_2]⟩), fun b hb => ⟨wr9_o (by omega) 9, by rw [wr9_2]⟩⟩
theorem wrM {S : Sp} {M : zM} {v : Nat → Int32} (h : RM S M) : RM S (wr9 M 98 v 9) ∧ sameLo M (wr9 M 98 v 9) := ⟨h.keep (fun b _ hb => ⟨wr9_o (by omega) 9, by rw [wr9_2]⟩), fun b hb => ⟨wr9_o (by omega) 9, by rw [wr9_2]⟩⟩
def sqS (S : Sp) (t : Nat) (a b c : Int32) : Int32 := if sqN a b c = true then bI (hld (S.2.2.1 t) (sqU a b c)) else -1
theorem ok_square {F : Nat} (hF : 3000 < F) (x y a b : Int32) : Good (NW_square F x y a b) (Mod_square F x y a b) := by
  cases h1 : inb x 3 with
  | false => exact mkGood0 (fun _ => -1001) (fun S M h => by simp [NW_square, NW_isTongue_ok, h1, bI]) (fun S M h0 h => by simp [Mod_square, Mod_isTongue_ok, h1, bI])
  | true =>
    cases h2 : inb y 1000 with
    | false => exact mkGood0 (fun _ => -1002) (fun S M h => by simp [NW_square, NW_isTongue_ok, NW_isNumber_ok, h1, h2, bI]) (fun S M h0 h => by simp [Mod_square, Mod_isTongue_ok, Mod_isNumber_ok, h1, h2, bI])
    | true =>
      have hX : ∀ M, NW_square F x y a b M = if 0 ≤ (lg_cmp (jabL a.toInt64) 1000) then some ((-1002 : Int32), M) else if (lg_cmp (jabL b.toInt64) 1000) < 0 then (Squ_lay F y a b M).bind fun (r_11, M_12) => if r_11 = 0 then some ((-1 : Int32), M_12) else if inb x 3 = true then (Squ_holdsIn F (tgA x) M_12).bind fun (r_16, M_17) => if r_16 = 0 then some ((0 : Int32), M_17) else some ((1 : Int32), M_17) else none else some ((-1002 : Int32), M) := fun M => by
        unfold NW_square
        rw [NW_isTongue_ok, h1, Option.bind_some]
        dsimp only
        rw [if_neg (by decide), NW_isNumber_ok, h2, Option.bind_some]
        dsimp only
        rw [if_neg (by decide)]
      have hM : ∀ M, Mod_square F x y a b M = if bI (decide ((-999 : Int64) ≤ a.toInt64 ∧ a.toInt64 ≤ 999)) = 0 then some ((-1002 : Int32), M) else if bI (decide ((-999 : Int64) ≤ b.toInt64 ∧ b.toInt64 ≤ 999)) = 0 then some ((-1002 : Int32), M) else (Mod_findNine F y a b M).bind fun (r_17, M_18) => if r_17 = 0 then some ((-1 : Int32), M_18) else (Mod_isTwice F x M_18).bind fun (r_21, M_22) => if r_21 = 0 then some ((0 : Int32), M_22) else some ((1 : Int32), M_22) := fun M => by
        unfold Mod_square
        rw [Mod_isTongue_ok, h1, Option.bind_some]
        dsimp only
        rw [if_neg (by decide), Mod_isNumber_ok, h2, Option.bind_some]
        dsimp only
        rw [if_neg (by decide), Mod_in_ok, Option.bind_some]
        dsimp only
        rw [Mod_in_ok, Option.bind_some]
      by_cases ca : (-999 : Int64) ≤ a.toInt64 ∧ a.toInt64 ≤ 999
      · by_cases cb : (-999 : Int64) ≤ b.toInt64 ∧ b.toInt64 ≤ 999
        · obtain ⟨t, ht, rfl⟩ := inb_of h1 (by decide)
          refine mkGood (fun S => (sqS S t y a b, S)) (fun S M h => ?_) (fun S M h0 h => ?_)
          · obtain ⟨w1, w2⟩ := wrX (v := sqV y a b) h
            refine ⟨_, ?_, w1, w2⟩
            rw [hX, if_neg (fun q => not_neg.mp q ((abL_ok a).mpr ca)), if_pos ((abL_ok b).mpr cb), lay_ok hF, Option.bind_some]
            dsimp only
            unfold sqS
            show (if bI (sqN y a b) = 0 then _ else _) = _
            cases e : sqN y a b with
            | false => rfl
            | true =>
              rw [if_neg (by decide), if_pos h1, tgA_n t ht, holdsIn_ok (w1.2.2.2.2.2.1 t ht) (fun i hi => ⟨(sqU_ok e i hi).1, (wr9_v 9 i hi).trans (sqU_ok e i hi).2⟩) hF, Option.bind_some, if_pos rfl]
              cases hld (S.2.2.1 t) (sqU y a b) <;> rfl
          · obtain ⟨w1, w2⟩ := wrM (v := sqV y a b) h
            refine ⟨_, ?_, w1, w2⟩
            rw [hM, decide_eq_true ca, if_neg (by decide), decide_eq_true cb, if_neg (by decide), nine_ok hF, Option.bind_some]
            dsimp only
            unfold sqS
            show (if bI (sqN y a b) = 0 then _ else _) = _
            cases e : sqN y a b with
            | false => rfl
            | true =>
              rw [if_neg (by decide), isTwice_ok h0 w1 ht (fun i hi => ⟨(sqU_ok e i hi).1, (wr9_v 9 i hi).trans (sqU_ok e i hi).2⟩) hF, Option.bind_some, if_pos rfl]
              cases hld (S.2.2.1 t) (sqU y a b) <;> rfl
        · refine mkGood0 (fun _ => -1002) (fun S M h => ?_) (fun S M h0 h => ?_)
          · rw [hX, if_neg (fun q => not_neg.mp q ((abL_ok a).mpr ca)), if_neg (fun q => cb ((abL_ok b).mp q))]
          · rw [hM, decide_eq_true ca, if_neg (by decide), decide_eq_false cb, if_pos (by decide)]
      · refine mkGood0 (fun _ => -1002) (fun S M h => ?_) (fun S M h0 h => ?_)
        · rw [hX, if_pos (not_neg.mpr (fun q => ca ((abL_ok a).mp q)))]
        · rw [hM, decide_eq_false ca, if_pos (by decide)]

/-! two rows of packed words against one another -/
def cmpW (v w : List Nat) : Int32 := if v = w then 0 else if ltW v w = true then -1 else 1
theorem sgn_mono {a b : Nat} (ha : isLt a) (hb : isLt b) : (sgn a = sgn b ↔ a = b) ∧ (sgn a < sgn b ↔ a < b) := by
  unfold isLt at ha hb
  unfold sgn
  by_cases c : a = 32
  · by_cases d : b = 32
    · rw [if_pos c, if_pos d]; omega
    · rw [if_pos c, if_neg d]; omega
  · by_cases d : b = 32
    · rw [if_neg c, if_pos d]; omega
    · rw [if_neg c, if_neg d]; omega
theorem pkN_lex : ∀ (j : Nat) (v w : List Nat), (∀ k ∈ v, isLt k) → (∀ k ∈ w, isLt k) → (pkN v j = pkN w j ↔ v.take j = w.take j) ∧ (pkN v j < pkN w j ↔ ltW (v.take j) (w.take j) = true) := by
  intro j
  induction j with
  | zero =>
    intro v w _ _
    have e : ∀ u : List Nat, pkN u 0 = 0 := fun u => by cases u <;> rfl
    rw [e, e, List.take_zero, List.take_zero]
    simp [ltW]
  | succ j ih =>
    intro v w hv hw
    cases v with
    | nil =>
      cases w with
      | nil => simp [pkN, ltW]
      | cons b w =>
        have h1 := sgn_lt (hw b (by simp))
        have h2 : 0 < 32 ^ j := Nat.pow_pos (by decide)
        have h3 : 0 < sgn b * 32 ^ j := Nat.mul_pos h1.2 h2
        show (0 = sgn b * 32 ^ j + pkN w j ↔ _) ∧ (0 < sgn b * 32 ^ j + pkN w j ↔ _)
        rw [List.take_succ_cons, List.take_nil]
        exact ⟨⟨fun q => by omega, fun q => by cases q⟩, ⟨fun _ => rfl, fun _ => by omega⟩⟩
    | cons a v =>
      have h1 := sgn_lt (hv a (by simp))
      have h2 : 0 < 32 ^ j := Nat.pow_pos (by decide)
      have h3 : 0 < sgn a * 32 ^ j := Nat.mul_pos h1.2 h2
      cases w with
      | nil =>
        show (sgn a * 32 ^ j + pkN v j = 0 ↔ _) ∧ (sgn a * 32 ^ j + pkN v j < 0 ↔ _)
        rw [List.take_succ_cons, List.take_nil]
        exact ⟨⟨fun q => by omega, fun q => by cases q⟩, ⟨fun q => by omega, fun q => by cases q⟩⟩
      | cons b w =>
        have hv' : ∀ k ∈ v, isLt k := fun k hk => hv k (by simp [hk])
        have hw' : ∀ k ∈ w, isLt k := fun k hk => hw k (by simp [hk])
        have g1 := pkN_lt j v hv'
        have g2 := pkN_lt j w hw'
        have gm := sgn_mono (hv a (by simp)) (hw b (by simp))
        obtain ⟨i1, i2⟩ := ih v w hv' hw'
        show (sgn a * 32 ^ j + pkN v j = sgn b * 32 ^ j + pkN w j ↔ _) ∧ (sgn a * 32 ^ j + pkN v j < sgn b * 32 ^ j + pkN w j ↔ _)
        rw [List.take_succ_cons, List.take_succ_cons]
        by_cases c : a = b
        · subst c
          refine ⟨?_, ?_⟩
          · rw [List.cons.injEq]
            rw [← i1]
            omega
          · show _ ↔ (if a = a then ltW (v.take j) (w.take j) else decide (a < a)) = true
            rw [if_pos rfl, ← i2]
            omega
        · have lt1 : ∀ x y z u : Nat, x < y → z < 32 ^ j → x * 32 ^ j + z < y * 32 ^ j + u := fun x y z u hxy hz => by
            have : (x + 1) * 32 ^ j ≤ y * 32 ^ j := Nat.mul_le_mul_right _ hxy
            rw [Nat.succ_mul] at this
            omega
          have e1 : sgn a ≠ sgn b := fun q => c (gm.1.mp q)
          refine ⟨⟨fun q => ?_, fun q => absurd (List.cons.inj q).1 c⟩, ?_⟩
          · rcases Nat.lt_or_gt_of_ne e1 with z | z
            · have := lt1 _ _ (pkN v j) (pkN w j) z g1; omega
            · have := lt1 _ _ (pkN w j) (pkN v j) z g2; omega
          · show _ ↔ (if a = b then ltW (v.take j) (w.take j) else decide (a < b)) = true
            rw [if_neg c, decide_eq_true_iff, ← gm.2]
            constructor
            · intro q
              rcases Nat.lt_or_gt_of_ne e1 with z | z
              · exact z
              · have := lt1 _ _ (pkN w j) (pkN v j) z g2; omega
            · intro z
              exact lt1 _ _ (pkN v j) (pkN w j) z g1
theorem ltW_app (p x y : List Nat) : ltW (p ++ x) (p ++ y) = ltW x y := by
  induction p with
  | nil => rfl
  | cons a p ih => show (if a = a then ltW (p ++ x) (p ++ y) else decide (a < a)) = _; rw [if_pos rfl, ih]
theorem ltW_take : ∀ (k : Nat) (v w : List Nat), v.take k ≠ w.take k → ltW v w = ltW (v.take k) (w.take k) := by
  intro k
  induction k with
  | zero => intro v w h; exact absurd (by rw [List.take_zero, List.take_zero]) h
  | succ k ih =>
    intro v w h
    cases v with
    | nil => cases w with
      | nil => rfl
      | cons b w => rfl
    | cons a v => cases w with
      | nil => rfl
      | cons b w =>
        rw [List.take_succ_cons, List.take_succ_cons] at h ⊢
        show (if a = b then ltW v w else decide (a < b)) = if a = b then ltW (v.take k) (w.take k) else decide (a < b)
        by_cases c : a = b
        · rw [if_pos c, if_pos c]
          exact ih v w (fun q => h (by rw [c, q]))
        · rw [if_neg c, if_neg c]
theorem cmpW_drop {k : Nat} {v w : List Nat} (h : v.take k = w.take k) : cmpW v w = cmpW (v.drop k) (w.drop k) := by
  have e1 : (v = w) = (v.drop k = w.drop k) := propext ⟨fun q => by rw [q], fun q => by
    rw [← List.take_append_drop k v, ← List.take_append_drop k w, h, q]⟩
  have e2 : ltW v w = ltW (v.drop k) (w.drop k) := by
    conv => lhs; rw [← List.take_append_drop k v, ← List.take_append_drop k w, h, ltW_app]
  unfold cmpW
  rw [e2]
  simp only [e1]
theorem cmpW_take {k : Nat} {v w : List Nat} (h : v.take k ≠ w.take k) : cmpW v w = if ltW (v.take k) (w.take k) = true then -1 else 1 := by
  unfold cmpW
  rw [if_neg (fun q => h (by rw [q])), ltW_take k v w h]
theorem cmpW_rf (v : List Nat) : cmpW v v = 0 := if_pos rfl
theorem cmpW_0 {v w : List Nat} : cmpW v w = 0 ↔ v = w := by
  unfold cmpW
  by_cases c : v = w
  · simp [c]
  · rw [if_neg c]
    constructor
    · intro q; split at q <;> cases q
    · intro q; exact absurd q c
theorem jlc_ok {F a b : Nat} {M : zM} (ha : a < 2 ^ 62) (hb : b < 2 ^ 62) : JLong_compare F (lN a) (lN b) M = some (if a = b then 0 else if a < b then -1 else 1, M) := by
  have h1 : (lN a).toInt = (a : Int) := pf_lI (by omega)
  have h2 : (lN b).toInt = (b : Int) := pf_lI (by omega)
  have c1 : lg_cmp (lN a) (lN b) < 0 ↔ a < b := by rw [cmp_lt, Int64.lt_iff_toInt_lt, h1, h2]; omega
  have c2 : 0 < lg_cmp (lN a) (lN b) ↔ b < a := by rw [cmp_gt, Int64.lt_iff_toInt_lt, h1, h2]; omega
  unfold JLong_compare
  generalize lg_cmp (lN a) (lN b) = z at *
  have e0 : (0 : Int32).toInt = 0 := by decide
  rw [Int32.lt_iff_toInt_lt, e0] at c1 c2
  by_cases h : a = b
  · have : z = 0 := Int32.toInt_inj.mp (by rw [e0]; omega)
    subst this
    rw [if_pos h, if_pos (by decide), if_pos rfl]
  · by_cases g : a < b
    · rw [if_neg h, if_pos g, if_neg (by rw [Int32.le_iff_toInt_le, e0]; omega)]
    · rw [if_neg h, if_neg g, if_pos (by rw [Int32.le_iff_toInt_le, e0]; omega), if_neg (fun q => by rw [q, e0] at c2; omega)]
theorem scmp_ok {F a b n m : Nat} {v w : List Nat} {M : zM} (hv : okW v) (hw : okW w) (ha : 5 * n + 5 ≤ zN (a + 1)) (hb : 5 * m + 5 ≤ zN (b + 1)) (ha2 : zN (a + 1) < 2 ^ 31) (hb2 : zN (b + 1) < 2 ^ 31) (h1 : ∀ i, i < 5 → M.2 (a + 1) (5 * n + i) = pk v i) (h2 : ∀ i, i < 5 → M.2 (b + 1) (5 * m + i) = pk w i) (hF : 3000 < F) : Spe_compare F a (nI n) b (nI m) M = some (cmpW v w, M) := by
  have key := loopN_inv (body := Spe_compare_B3 F a (nI n) b (nI m)) (I := fun i s => s = (nI i, 0, M) ∧ cmpW v w = cmpW (v.drop (12 * i)) (w.drop (12 * i))) (Qx := fun q => (∃ y, q = (1, y, cmpW v w, M)) ∨ ∃ y y', q = (2, y, y', M) ∧ cmpW v w = 0) (N := 5) (F := F) (s := (0, 0, M)) (fun i s hi hs => by
    obtain ⟨rfl, hc⟩ := hs
    have hd1 : ∀ k ∈ v.drop (12 * i), isLt k := fun k hk => hv.2 k (List.mem_of_mem_drop hk)
    have hd2 : ∀ k ∈ w.drop (12 * i), isLt k := fun k hk => hw.2 k (List.mem_of_mem_drop hk)
    have b1 := pkN_lt 12 _ hd1
    have b2 := pkN_lt 12 _ hd2
    have e60 : (32 : Nat) ^ 12 < 2 ^ 62 := by decide
    obtain ⟨l1, l2⟩ := pkN_lex 12 _ _ hd1 hd2
    have st : Spe_compare_B3 F a (nI n) b (nI m) (nI i, 0, M) = if (if pkN (v.drop (12 * i)) 12 = pkN (w.drop (12 * i)) 12 then (0 : Int32) else if pkN (v.drop (12 * i)) 12 < pkN (w.drop (12 * i)) 12 then -1 else 1) = 0 then some (0, nI i + 1, 0, M) else some (1, 0, (if pkN (v.drop (12 * i)) 12 = pkN (w.drop (12 * i)) 12 then (0 : Int32) else if pkN (v.drop (12 * i)) 12 < pkN (w.drop (12 * i)) 12 then -1 else 1), M) := by
      unfold Spe_compare_B3
      dsimp only [lt]
      rw [if_neg (show ¬ (5 : Int32) ≤ nI i from nI_ge (b := 5) hi (by decide)), signs_ok (by omega) ha2, Option.bind_some]
      dsimp only
      rw [signs_ok (by omega) hb2, Option.bind_some]
      dsimp only
      rw [h1 i hi, h2 i hi]
      unfold pk
      rw [jlc_ok (by omega) (by omega), Option.bind_some]
    rw [st]
    by_cases c : pkN (v.drop (12 * i)) 12 = pkN (w.drop (12 * i)) 12
    · refine Or.inl ⟨(nI (i + 1), 0, M), ?_, rfl, ?_⟩
      · rw [if_pos c, if_pos rfl, nI_1]
      · rw [hc, cmpW_drop (l1.mp c), List.drop_drop, List.drop_drop]; rfl
    · refine Or.inr ⟨(1, 0, cmpW v w, M), ?_, (fun q => by cases q), Or.inl ⟨0, rfl⟩⟩
      have c2 : cmpW v w = if pkN (v.drop (12 * i)) 12 < pkN (w.drop (12 * i)) 12 then -1 else 1 := by
        rw [hc, cmpW_take (fun q => c (l1.mpr q))]
        by_cases z : pkN (v.drop (12 * i)) 12 < pkN (w.drop (12 * i)) 12
        · rw [if_pos z, if_pos (l2.mp z)]
        · rw [if_neg z, if_neg (fun q => z (l2.mpr q))]
      rw [if_neg c, c2]
      split
      · rw [if_neg (by decide)]
      · rw [if_neg (by decide)]) (fun s hs => by
    obtain ⟨rfl, hc⟩ := hs
    refine ⟨(2, 0, 0, M), ?_, (fun q => by cases q), Or.inr ⟨0, 0, rfl, ?_⟩⟩
    · unfold Spe_compare_B3
      exact if_pos (by decide)
    · rw [hc, List.drop_eq_nil_of_le (by have := hv.1; omega), List.drop_eq_nil_of_le (by have := hw.1; omega)]
      exact cmpW_rf []) (by omega) ⟨rfl, rfl⟩
  obtain ⟨q, e1, e2⟩ := key
  unfold Spe_compare
  rw [e1, Option.bind_some]
  rcases e2 with ⟨y, rfl⟩ | ⟨y, y', rfl, e⟩
  · rfl
  · rw [e]; rfl

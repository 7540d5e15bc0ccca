/-! ===== lines: empty, append ===== -/
def zFillL (M : zM) (a n : Nat) (x : Int64) : zM := (M.1, va_up M.2 a (fun j => if j < n then x else M.2 a j))
theorem zFillL_0 {M : zM} {a : Nat} {x : Int64} : zFillL M a 0 x = M := by
  refine zM_ext (fun _ => rfl) (fun b => ?_)
  unfold zFillL va_up
  by_cases h : b = a
  · subst h; simp
  · simp [h]
theorem zFillL_s {M : zM} {a n : Nat} {x : Int64} : zL (zFillL M a n x) a n x = zFillL M a (n + 1) x := by
  refine zM_ext (fun _ => rfl) (fun b => ?_)
  unfold zFillL zL va_up vp_updL
  by_cases h : b = a
  · subst h
    funext j
    simp
    by_cases hj : j = n
    · subst hj; simp
    · simp [hj]
      by_cases hl : j < n
      · simp [hl, show j < n + 1 by omega]
      · simp [hl, show ¬ j < n + 1 by omega]
  · simp [h]
theorem fillL_ok {F a : Nat} {x : Int64} {M : zM} (hn : zN a < 2 ^ 31) (hF : zN a < F) : JArr_fill_L F a x M = some ((), zFillL M a (zN a) x) := by
  have key := loopN_seq (body := JArr_fill_L_B6 F a x (nI (zN a))) (zN a) (fun i => (nI i, zFillL M a i x)) (1, 0, zFillL M a (zN a) x) F (fun i hi => by
    show (if nI (zN a) ≤ nI i then some (1, 0, zFillL M a i x) else if inb (nI i) (zN a) = true then some (0, nI i + 1, zL (zFillL M a i x) a (nI i).toNatClampNeg x) else none) = _
    rw [if_neg (nI_ge hi hn), if_pos (inb_nI hi hn), nI_clamp (by omega), zFillL_s, nI_1]) (by
    unfold JArr_fill_L_B6
    exact if_pos (nI_le (Nat.le_refl _) hn)) (fun h => by cases h) hF
  simp only [zFillL_0, nI_0] at key
  show (loopN (JArr_fill_L_B6 F a x (nI (zN a))) F (0, M)).bind _ = _
  rw [key]
  rfl
theorem zFillL_other {M : zM} {a b n : Nat} {x : Int64} (h : b ≠ a) : (zFillL M a n x).2 b = M.2 b := by unfold zFillL va_up; simp [h]
theorem zFillL_in {M : zM} {a n j : Nat} {x : Int64} (h : j < n) : (zFillL M a n x).2 a j = x := by unfold zFillL va_up; simp [h]
/-- a line emptied -/
def zEmp (M : zM) (a : Nat) : zM := zI (zFillL M (a + 1) 5 0) a 1 0
theorem empty_ok {F a : Nat} {M : zM} (hk : zK a = 3) (hF : 5 < F) : Lin_empty F a M = some ((), zEmp M a) := by
  have hn := zNr_3_0 hk
  show (JArr_fill_L F (a + 1) 0 M).bind _ = _
  rw [fillL_ok (by rw [hn]; decide) (by rw [hn]; exact hF), hn]
  rfl
theorem zEmp_1 {M : zM} {a b : Nat} (h : b ≠ a) : (zEmp M a).1 b = M.1 b := by unfold zEmp; rw [zI_other h]; rfl
theorem zEmp_2 {M : zM} {a b : Nat} (h : b ≠ a + 1) : (zEmp M a).2 b = M.2 b := by unfold zEmp; exact zFillL_other h
theorem zEmp_XL {M : zM} {a : Nat} : XL a [] (zEmp M a) := by
  refine ⟨⟨by decide, fun k h => by cases h⟩, zI_in, fun i hi => ?_⟩
  rw [pk_0]
  exact zFillL_in hi
theorem ok_clear {F : Nat} (hF : 3000 < F) : Good (NW_clear F) (Mod_clear F) := by
  refine mkGood (fun S => (nI S.2.2.2.length, (S.1, S.2.1, S.2.2.1, []))) (fun S M h => ?_) (fun S M h0 h => ?_)
  · obtain ⟨h1, h2, h3, h4, h5, h6, h7, h8⟩ := h
    refine ⟨zEmp (zEmp M 53) 55, ?_, ?_, fun a ha => ⟨by rw [zEmp_1 (by omega), zEmp_1 (by omega)], by rw [zEmp_2 (by omega), zEmp_2 (by omega)]⟩⟩
    · show (some (M.1 53 1, M)).bind _ = _
      rw [Option.bind_some]
      dsimp only
      rw [empty_ok rfl (by omega), Option.bind_some]
      dsimp only
      rw [empty_ok rfl (by omega), Option.bind_some, h7.2.1]
    · refine ⟨h1, h2, by rw [zEmp_1 (by decide), zEmp_1 (by decide)]; exact h3, by rw [zEmp_1 (by decide), zEmp_1 (by decide)]; exact h4, by rw [zEmp_1 (by decide), zEmp_1 (by decide)]; exact h5, fun t ht => (h6 t ht).same (fun b b1 b2 => ⟨by rw [zEmp_1 (by omega), zEmp_1 (by omega)], by rw [zEmp_2 (by omega), zEmp_2 (by omega)]⟩), ?_, ?_⟩
      · exact XL.same (M := zEmp M 53) zEmp_XL (by rw [zEmp_1 (by decide)]) (by rw [zEmp_2 (by decide)])
      · exact zEmp_XL
  · obtain ⟨h1, h2, h3, h4, h5, h6, h7⟩ := h
    refine ⟨zI M 63 42 0, ?_, ⟨?_, h2, ?_, h4, zI_in, fun i hi => absurd hi (Nat.not_lt_zero i), ?_, h7.2.same (zI_other (by decide))⟩, sameLo.zI sameLo.rf (by decide)⟩
    · unfold Mod_clear lt
      rw [h5]
    · rw [zI_ne (Or.inr (by decide))]; exact h1
    · rw [zI_ne (Or.inr (by decide))]; exact h3
    · rw [zI_ne (Or.inr (by decide)), zI_ne (Or.inr (by decide)), zI_ne (Or.inr (by decide))]; exact h7.1
/-! ===== signs one behind the other ===== -/
theorem pkN_app : ∀ (u v : List Nat) (j : Nat), u.length ≤ j → pkN (u ++ v) j = pkN u j + pkN v (j - u.length) := by
  intro u
  induction u with
  | nil => intro v j _; rw [pkN_nil]; simp
  | cons k u ih =>
    intro v j h
    cases j with
    | zero => simp at h
    | succ j =>
      simp only [List.cons_append, pkN, List.length_cons]
      rw [ih v j (by simpa using h), show j + 1 - (u.length + 1) = j - u.length by omega]
      omega
/-- the last r signs fall away -/
theorem pkN_div : ∀ (j : Nat) (v : List Nat) (r : Nat), (∀ k ∈ v, isLt k) → pkN v (j + r) / 32 ^ r = pkN v j ∧ pkN v (j + r) % 32 ^ r = pkN (v.drop j) r := by
  intro j
  induction j with
  | zero =>
    intro v r hv
    have := pkN_lt r v hv
    rw [Nat.zero_add, List.drop_zero, Nat.div_eq_of_lt this, Nat.mod_eq_of_lt this]
    exact ⟨by cases v <;> rfl, rfl⟩
  | succ j ih =>
    intro v r hv
    cases v with
    | nil => simp [pkN_nil]
    | cons k v =>
      obtain ⟨h1, h2⟩ := ih v r (fun x hx => hv x (List.mem_cons_of_mem _ hx))
      rw [show j + 1 + r = (j + r) + 1 by omega]
      simp only [pkN, List.drop_succ_cons]
      have e : sgn k * 32 ^ (j + r) = 32 ^ r * (sgn k * 32 ^ j) := by rw [Nat.pow_add, Nat.mul_comm (32 ^ j), Nat.mul_left_comm]
      rw [e, Nat.mul_add_div (Nat.pow_pos (by decide)), Nat.mul_add_mod, h1, h2]
      exact ⟨rfl, rfl⟩
theorem pkN_short : ∀ (u : List Nat) (r j : Nat), u.length ≤ r → pkN u (r + j) = pkN u r * 32 ^ j := by
  intro u
  induction u with
  | nil => intro r j _; rw [pkN_nil, pkN_nil, Nat.zero_mul]
  | cons k u ih =>
    intro r j h
    cases r with
    | zero => simp at h
    | succ r =>
      rw [show r + 1 + j = (r + j) + 1 by omega]
      simp only [pkN]
      rw [ih r j (by simpa using h), Nat.add_mul, Nat.pow_add, Nat.mul_assoc]
theorem pkN_take : ∀ (j : Nat) (u v : List Nat), j ≤ u.length → pkN (u ++ v) j = pkN u j := by
  intro j
  induction j with
  | zero => intro u v _; cases u <;> cases v <;> rfl
  | succ j ih =>
    intro u v h
    cases u with
    | nil => simp at h
    | cons k u =>
      simp only [List.cons_append, pkN]
      rw [ih u v (by simpa using h)]
theorem p32 (k : Nat) : (32 : Nat) ^ k = 2 ^ (5 * k) := by rw [show (32 : Nat) = 2 ^ 5 from rfl, ← Nat.pow_mul]
/-- what the append puts into the long that is begun, and into the next one -/
theorem pk_app {w v : List Nat} {q r : Nat} (hw : ∀ k ∈ w, isLt k) (hv : ∀ k ∈ v, isLt k) (hr : r < 12) (hl : w.length = 12 * q + r) (hv12 : v.length ≤ 12) :
    (∀ i, i < q → pk (w ++ v) i = pk w i) ∧ pk (w ++ v) q = pk w q ||| ur (lN (pkN v 12)) (nI (5 * r)) ∧ pk (w ++ v) (q + 1) = pk w (q + 1) ||| (sl (lN (pkN v 12)) (nI (60 - 5 * r)) &&& lN (2 ^ 60 - 1)) ∧ ∀ i, q + 1 < i → pk (w ++ v) i = pk w i := by
  have hV := pkN_lt 12 v hv
  have hV60 : pkN v 12 < 2 ^ 60 := hV
  refine ⟨fun i hi => ?_, ?_, ?_, fun i hi => ?_⟩
  · unfold pk
    congr 1
    rw [List.drop_append, show 12 * i - w.length = 0 by omega, List.drop_zero]
    exact pkN_take 12 _ _ (by rw [List.length_drop]; omega)
  · unfold pk
    rw [List.drop_append, show 12 * q - w.length = 0 by omega, List.drop_zero, ur_ok (by omega) (by omega)]
    generalize hu : w.drop (12 * q) = u
    have hul : u.length = r := by rw [← hu, List.length_drop]; omega
    have huL : ∀ k ∈ u, isLt k := fun k hk => hw k (List.mem_of_mem_drop (by rw [hu]; exact hk))
    have h1 : pkN u 12 = pkN u r * 2 ^ (5 * (12 - r)) := by
      have := pkN_short u r (12 - r) (by omega)
      rw [show r + (12 - r) = 12 by omega, p32] at this
      exact this
    have h2 : pkN v 12 / 2 ^ (5 * r) = pkN v (12 - r) := by
      have := (pkN_div (12 - r) v r hv).1
      rw [show 12 - r + r = 12 by omega, p32] at this
      exact this
    have h3 : pkN v (12 - r) < 2 ^ (5 * (12 - r)) := by have := pkN_lt (12 - r) v hv; rw [p32] at this; exact this
    have h4 : pkN u r * 2 ^ (5 * (12 - r)) + pkN v (12 - r) < 2 ^ 64 := by
      have h5 : pkN (u ++ v) 12 < 32 ^ 12 := pkN_lt 12 _ (fun k hk => (List.mem_append.mp hk).elim (huL k) (hv k))
      rw [pkN_app u v 12 (by omega), hul, h1] at h5
      have : (32 : Nat) ^ 12 < 2 ^ 64 := by decide
      omega
    rw [pkN_app u v 12 (by omega), hul, h1, h2, g_or rfl h3 h4]
  · unfold pk
    rw [List.drop_append, show w.drop (12 * (q + 1)) = [] from List.drop_eq_nil_of_le (by omega), pkN_nil, List.nil_append, show 12 * (q + 1) - w.length = 12 - r by omega]
    have h1 : pkN (v.drop (12 - r)) 12 = pkN (v.drop (12 - r)) r * 32 ^ (12 - r) := by
      have := pkN_short (v.drop (12 - r)) r (12 - r) (by rw [List.length_drop]; omega)
      rw [show r + (12 - r) = 12 by omega] at this
      exact this
    have h2 : pkN v 12 % 32 ^ r = pkN (v.drop (12 - r)) r := by
      have := (pkN_div (12 - r) v r hv).2
      rw [show 12 - r + r = 12 by omega] at this
      exact this
    have h3 : sl (lN (pkN v 12)) (nI (60 - 5 * r)) = lN (pkN v 12 * 2 ^ (60 - 5 * r) % 2 ^ 64) := by
      show lN (pkN v 12) <<< ((nI (60 - 5 * r)).toInt64 &&& 63) = _
      rw [wb_shl _ (by omega), wb_mod]
    have h5 : pkN v 12 * 2 ^ (60 - 5 * r) % 2 ^ 64 % 2 ^ 60 = pkN (v.drop (12 - r)) r * 32 ^ (12 - r) := by
      rw [Nat.mod_mod_of_dvd _ (show 2 ^ 60 ∣ 2 ^ 64 from ⟨16, by decide⟩), ← h2, p32, p32, show (60 - 5 * r) = 5 * (12 - r) by omega, show (2 : Nat) ^ 60 = 2 ^ (5 * r) * 2 ^ (5 * (12 - r)) by rw [← Nat.pow_add]; congr 1; omega, Nat.mul_mod_mul_right]
    rw [h3, wb_mask (Nat.mod_lt _ (by decide)) (by decide), h5, h1, show lN 0 ||| lN (pkN (v.drop (12 - r)) r * 32 ^ (12 - r)) = lN (pkN (v.drop (12 - r)) r * 32 ^ (12 - r)) from ?_]
    rw [wb_or (by decide) (by rw [← h1]; exact Nat.lt_trans (pkN_lt 12 _ (fun k hk => hv k (List.mem_of_mem_drop hk))) (by decide)), Nat.zero_or]
  · unfold pk
    rw [List.drop_eq_nil_of_le (show (w ++ v).length ≤ 12 * i by rw [List.length_append]; omega), List.drop_eq_nil_of_le (show w.length ≤ 12 * i by omega)]

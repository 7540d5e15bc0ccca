/-! the reference's comparison of two names -/
def ahB (v w : List Nat) (n m : Nat) : Bool := ltW v w || (decide (v = w) && decide (n < m))
theorem drop_c {v : List Nat} {i : Nat} (h : i < v.length) : v.drop i = v.getD i 0 :: v.drop (i + 1) := by
  rw [List.drop_eq_getElem_cons h, List.getD_eq_getElem?_getD, List.getElem?_eq_getElem h]; rfl
theorem isAhead_ok {F t n m : Nat} {v w : List Nat} {b d b' d' : Nat} {M : zM} (hv : okW v) (hw : okW w) (h1 : MN (1000 * t + n) (some (v, b, d)) M) (h2 : MN (1000 * t + m) (some (w, b', d')) M) (ht : t < 3) (hn : n < 1000) (hm : m < 1000) (hF : 3000 < F) : Mod_isAhead F (nI t) (nI n) (nI m) M = some (bI (ahB v w n m), M) := by
  have e1 : inb (nI (1000 * t + n)) 3000 = true := inb_nI (by omega) (by decide)
  have e2 : (nI (1000 * t + n)).toNatClampNeg = 1000 * t + n := nI_clamp (by omega)
  have e3 : inb (nI (1000 * t + m)) 3000 = true := inb_nI (by omega) (by decide)
  have e4 : (nI (1000 * t + m)).toNatClampNeg = 1000 * t + m := nI_clamp (by omega)
  have lv := hv.1
  have lw := hw.1
  have g1 : M.1 74 (1000 * t + n) = nI v.length := h1.1
  have g2 : M.1 74 (1000 * t + m) = nI w.length := h2.1
  have b1 : ∀ i, i < v.length → Mod_byteOf F (nI (1000 * t + n)) (nI i) M = some (nI (v.getD i 0), M) := fun i hi => by
    rw [Mod_byteOf_ok (by omega) (by omega)]; exact congrArg (fun z => some (z, M)) (h1.2.2.2.2 i hi)
  have b2 : ∀ i, i < w.length → Mod_byteOf F (nI (1000 * t + m)) (nI i) M = some (nI (w.getD i 0), M) := fun i hi => by
    rw [Mod_byteOf_ok (by omega) (by omega)]; exact congrArg (fun z => some (z, M)) (h2.2.2.2.2 i hi)
  have key := loopN_inv (body := Mod_isAhead_B21 F (nI n) (nI m) (nI (1000 * t + n)) (nI (1000 * t + m))) (I := fun i s => s = (nI i, M) ∧ i ≤ v.length ∧ i ≤ w.length ∧ v.take i = w.take i) (Qx := fun q => ∃ i, q = (1, nI i, M) ∧ i ≤ v.length ∧ i ≤ w.length ∧ v.take i = w.take i ∧ (i = v.length ∨ i = w.length ∨ v.getD i 0 ≠ w.getD i 0)) (N := v.length) (F := F) (s := (0, M)) (fun i s hi hs => by
    obtain ⟨rfl, i1, i2, i3⟩ := hs
    unfold Mod_isAhead_B21
    dsimp only [lt]
    rw [if_pos e1, e2, g1, if_neg (nI_ge hi (by omega)), if_pos e3, e4, g2]
    by_cases c : i < w.length
    · have m1 := isLt_32 (hv.2 _ (getD_mem hi))
      have m2 := isLt_32 (hw.2 _ (getD_mem c))
      rw [if_neg (nI_ge c (by omega)), b1 i hi, Option.bind_some]
      dsimp only
      rw [b2 i c, Option.bind_some]
      dsimp only
      by_cases z : v.getD i 0 = w.getD i 0
      · rw [if_pos (by rw [z]), nI_1]
        exact Or.inl ⟨_, rfl, rfl, by omega, by omega, by rw [take_s hi, take_s c, i3, z]⟩
      · rw [if_neg (fun q => z ((nI_eq (by omega) (by omega)).mp q))]
        exact Or.inr ⟨_, rfl, (fun q => by cases q), i, rfl, i1, i2, i3, Or.inr (Or.inr z)⟩
    · rw [if_pos (nI_le (by omega) (by omega))]
      exact Or.inr ⟨_, rfl, (fun q => by cases q), i, rfl, i1, i2, i3, Or.inr (Or.inl (by omega))⟩) (fun s hs => by
    obtain ⟨rfl, i1, i2, i3⟩ := hs
    unfold Mod_isAhead_B21
    dsimp only
    rw [if_pos e1, e2, g1, if_pos (nI_le (Nat.le_refl _) (by omega))]
    exact ⟨_, rfl, (fun q => by cases q), v.length, rfl, i1, i2, i3, Or.inl rfl⟩) (by omega) ⟨rfl, Nat.zero_le _, Nat.zero_le _, by rw [List.take_zero, List.take_zero]⟩
  obtain ⟨q, k1, i, rfl, i1, i2, i3, i4⟩ := key
  have hlt : ltW v w = ltW (v.drop i) (w.drop i) := by
    conv => lhs; rw [← List.take_append_drop i v, ← List.take_append_drop i w, i3, ltW_app]
  have heq : (v = w) = (v.drop i = w.drop i) := propext ⟨fun q => by rw [q], fun q => by
    rw [← List.take_append_drop i v, ← List.take_append_drop i w, i3, q]⟩
  have j94 : (i = v.length ∨ i = w.length) → Mod_isAhead_J94 F (nI n) (nI m) (nI (1000 * t + n)) (nI (1000 * t + m)) M = some (bI (ahB v w n m), M) := fun hi => by
    unfold Mod_isAhead_J94 ahB
    rw [if_pos e1, if_pos e3, e2, e4, g1, g2, hlt]
    simp only [heq]
    by_cases c : v.length < w.length
    · have : i = v.length := by omega
      subst this
      rw [if_pos (nI_lt c (by omega)), drop_c c, List.drop_length]
      rfl
    · rw [if_neg (nI_nlt (by omega) (by omega))]
      by_cases c2 : v.length = w.length
      · have x1 : v.drop i = [] := List.drop_eq_nil_of_le (by omega)
        have x2 : w.drop i = [] := List.drop_eq_nil_of_le (by omega)
        rw [if_pos (by rw [c2]), x1, x2]
        by_cases c3 : n < m
        · rw [if_neg (nI_ge c3 (by omega)), decide_eq_true c3]; rfl
        · rw [if_pos (nI_le (by omega) (by omega)), decide_eq_false c3]; rfl
      · have x2 : w.drop i = [] := List.drop_eq_nil_of_le (by omega)
        rw [if_neg (fun q => c2 ((nI_eq (by omega) (by omega)).mp q)), x2, drop_c (show i < v.length by omega)]
        rfl
  unfold Mod_isAhead
  dsimp only [lt]
  rw [ix_t, ix_t, k1, Option.bind_some]
  dsimp only
  rw [if_pos rfl]
  unfold Mod_isAhead_J70
  rw [if_pos e1, e2, g1]
  by_cases c1 : i = v.length
  · rw [if_pos (by rw [c1])]
    exact j94 (Or.inl c1)
  · rw [if_neg (fun q => c1 ((nI_eq (by omega) (by omega)).mp q)), if_pos e3, e4, g2]
    by_cases c2 : i = w.length
    · rw [if_pos (by rw [c2])]
      exact j94 (Or.inr c2)
    · have z : v.getD i 0 ≠ w.getD i 0 := by
        rcases i4 with q | q | q
        · exact absurd q c1
        · exact absurd q c2
        · exact q
      have iv : i < v.length := by omega
      have iw : i < w.length := by omega
      have m1 := isLt_32 (hv.2 _ (getD_mem iv))
      have m2 := isLt_32 (hw.2 _ (getD_mem iw))
      rw [if_neg (fun q => c2 ((nI_eq (by omega) (by omega)).mp q)), b1 i iv, Option.bind_some]
      dsimp only
      rw [b2 i iw, Option.bind_some]
      dsimp only
      have hne : ¬ v = w := fun q => z (by rw [q])
      have hl : ltW v w = decide (v.getD i 0 < w.getD i 0) := by
        rw [hlt, drop_c iv, drop_c iw]
        show (if v.getD i 0 = w.getD i 0 then _ else _) = _
        rw [if_neg z]
      unfold ahB
      rw [hl, decide_eq_false hne]
      by_cases c : v.getD i 0 < w.getD i 0
      · rw [if_neg (nI_ge c (by omega)), decide_eq_true c]; rfl
      · rw [if_pos (nI_le (by omega) (by omega)), decide_eq_false c]; rfl

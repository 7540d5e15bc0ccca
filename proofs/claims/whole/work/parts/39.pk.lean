/-! order: the order of names, and that it has one list only -/
theorem ltW_irr : ∀ w, ltW w w = false := by
  intro w
  induction w with
  | nil => rfl
  | cons a w ih => show (if a = a then ltW w w else decide (a < a)) = false; rw [if_pos rfl, ih]
theorem ltW_cons (a b : Nat) (v w : List Nat) : ltW (a :: v) (b :: w) = true ↔ a < b ∨ (a = b ∧ ltW v w = true) := by
  show (if a = b then ltW v w else decide (a < b)) = true ↔ _
  by_cases c : a = b
  · rw [if_pos c]
    constructor
    · intro h; exact Or.inr ⟨c, h⟩
    · rintro (h | h)
      · omega
      · exact h.2
  · rw [if_neg c, decide_eq_true_iff]
    constructor
    · intro h; exact Or.inl h
    · rintro (h | h)
      · exact h
      · exact absurd h.1 c
theorem ltW_tr : ∀ u v w : List Nat, ltW u v = true → ltW v w = true → ltW u w = true := by
  intro u
  induction u with
  | nil =>
    intro v w h1 h2
    cases v with
    | nil => cases h1
    | cons b v => cases w with
      | nil => cases h2
      | cons c w => rfl
  | cons a u ih =>
    intro v w h1 h2
    cases v with
    | nil => cases h1
    | cons b v => cases w with
      | nil => cases h2
      | cons c w =>
        rw [ltW_cons] at h1 h2 ⊢
        rcases h1 with h1 | ⟨h1, h1'⟩
        · rcases h2 with h2 | ⟨h2, h2'⟩
          · exact Or.inl (by omega)
          · exact Or.inl (by omega)
        · rcases h2 with h2 | ⟨h2, h2'⟩
          · exact Or.inl (by omega)
          · exact Or.inr ⟨by omega, ih v w h1' h2'⟩
theorem ltW_tot : ∀ v w : List Nat, v ≠ w → ltW v w = true ∨ ltW w v = true := by
  intro v
  induction v with
  | nil =>
    intro w h
    cases w with
    | nil => exact absurd rfl h
    | cons b w => exact Or.inl rfl
  | cons a v ih =>
    intro w h
    cases w with
    | nil => exact Or.inr rfl
    | cons b w =>
      rw [ltW_cons, ltW_cons]
      by_cases c : a = b
      · subst c
        rcases ih w (fun q => h (by rw [q])) with q | q
        · exact Or.inl (Or.inr ⟨rfl, q⟩)
        · exact Or.inr (Or.inr ⟨rfl, q⟩)
      · rcases Nat.lt_or_gt_of_ne c with q | q
        · exact Or.inl (Or.inl q)
        · exact Or.inr (Or.inl q)
theorem ltW_as {v w : List Nat} (h : ltW v w = true) : ltW w v = false := by
  cases e : ltW w v with
  | false => rfl
  | true => have := ltW_tr v w v h e; rw [ltW_irr] at this; cases this
theorem cmpW_pos {v w : List Nat} : 0 < cmpW v w ↔ ltW w v = true := by
  unfold cmpW
  by_cases c : v = w
  · rw [if_pos c, c, ltW_irr]; decide
  · rw [if_neg c]
    rcases ltW_tot v w c with q | q
    · rw [if_pos q, ltW_as q]; decide
    · rw [if_neg (by rw [ltW_as q]; decide), q]; decide
theorem ahead_tr {T : Tn} {a b c : Nat} (h1 : ahead T a b) (h2 : ahead T b c) : ahead T a c := by
  unfold ahead at *
  rcases h1 with h1 | ⟨h1, h1'⟩
  · rcases h2 with h2 | ⟨h2, h2'⟩
    · exact Or.inl (ltW_tr _ _ _ h1 h2)
    · exact Or.inl (by rw [← h2]; exact h1)
  · rcases h2 with h2 | ⟨h2, h2'⟩
    · exact Or.inl (by rw [h1]; exact h2)
    · exact Or.inr ⟨h1.trans h2, by omega⟩
theorem ahead_irr {T : Tn} {a : Nat} : ¬ ahead T a a := by
  unfold ahead
  rw [ltW_irr]
  rintro (h | ⟨_, h⟩)
  · cases h
  · omega
theorem ahead_tot {T : Tn} {a b : Nat} (h : a ≠ b) : ahead T a b ∨ ahead T b a := by
  unfold ahead
  by_cases c : nmW T a = nmW T b
  · rcases Nat.lt_or_gt_of_ne h with q | q
    · exact Or.inl (Or.inr ⟨c, q⟩)
    · exact Or.inr (Or.inr ⟨c.symm, q⟩)
  · rcases ltW_tot _ _ c with q | q
    · exact Or.inl (Or.inl q)
    · exact Or.inr (Or.inl q)
theorem ord_one {T : Tn} : ∀ L1 L2 : List Nat, L1.Perm L2 → L1.Pairwise (ahead T) → L2.Pairwise (ahead T) → L1 = L2 := by
  intro L1
  induction L1 with
  | nil => intro L2 h _ _; exact (List.Perm.nil_eq h)
  | cons a L1 ih =>
    intro L2 h h1 h2
    cases L2 with
    | nil => exact absurd h.length_eq (by simp)
    | cons b L2 =>
      rw [List.pairwise_cons] at h1 h2
      have e : a = b := by
        by_cases c : a = b
        · exact c
        · have m1 : a ∈ b :: L2 := h.subset (by simp)
          have m2 : b ∈ a :: L1 := h.symm.subset (by simp)
          have m1 : a ∈ L2 := by
            rcases List.mem_cons.mp m1 with q | q
            · exact absurd q c
            · exact q
          have m2 : b ∈ L1 := by
            rcases List.mem_cons.mp m2 with q | q
            · exact absurd q.symm c
            · exact q
          exact absurd (ahead_tr (h1.1 b m2) (h2.1 a m1)) ahead_irr
      subst e
      rw [ih L2 (List.perm_cons a |>.mp h) h1.2 h2.2]
theorem IsOrd.one {T : Tn} {L1 L2 : List Nat} (h1 : IsOrd T L1) (h2 : IsOrd T L2) : L1 = L2 := ord_one L1 L2 (h1.1.trans h2.1.symm) h1.2 h2.2

theorem twin.sy {T : Tn} {n m : Nat} (h : twin T n m) : twin T m n := ⟨fun q => h.1 q.symm, h.2.2.1, h.2.1, h.2.2.2.2.1, h.2.2.2.1, h.2.2.2.2.2.symm⟩
theorem frT_iff {T : Tn} {n m : Nat} (hn : n < 1000) (hm : m < 1000) : frT T m n = true ↔ twin T n m := by
  unfold frT twB twin rnN
  rw [Bool.and_eq_true, Bool.and_eq_true, Bool.and_eq_true, decide_eq_true_iff, decide_eq_true_iff]
  exact ⟨fun q => ⟨q.1, hn, hm, q.2.1.1, q.2.1.2, q.2.2⟩, fun q => ⟨q.1, ⟨q.2.2.2.1, q.2.2.2.2.1⟩, q.2.2.2.2.2⟩⟩
def OuT (T : Tn) (k : Nat) (x y c : Int32) : Prop := (∃ cs : List Nat, cs.Nodup ∧ (∀ n, n ∈ cs ↔ n < k ∧ ∃ m, twin T n m) ∧ c = nI cs.length) ∧ ((x = -1 ∧ y = -1 ∧ ∀ n m, twin T n m → n < m → k ≤ m) ∨ ∃ n m, m < k ∧ m < 1000 ∧ x = nI n ∧ y = nI m ∧ n < m ∧ twin T n m ∧ (∀ n' m', twin T n' m' → n' < m' → m ≤ m') ∧ ∀ n', twin T n' m → n' < m → n ≤ n')
theorem OuT.no {T : Tn} {k : Nat} {x y c : Int32} (h : OuT T k x y c) (hk : ∀ n, ¬ twin T n k) : OuT T (k + 1) x y (c + 0) := by
  obtain ⟨⟨cs, a1, a2, a3⟩, h2⟩ := h
  refine ⟨⟨cs, a1, fun n => ?_, by rw [Int32.add_zero]; exact a3⟩, ?_⟩
  · rw [a2 n]
    constructor
    · rintro ⟨q1, q2⟩; exact ⟨by omega, q2⟩
    · rintro ⟨q1, m, q2⟩
      by_cases c : n = k
      · subst c; exact absurd q2.sy (hk m)
      · exact ⟨by omega, m, q2⟩
  · rcases h2 with ⟨q1, q2, q3⟩ | ⟨n, m, q0, q⟩
    · refine Or.inl ⟨q1, q2, fun n m h1 h2 => ?_⟩
      have := q3 n m h1 h2
      by_cases c : m = k
      · subst c; exact absurd h1 (hk n)
      · omega
    · exact Or.inr ⟨n, m, by omega, q⟩
theorem OuT.ye {T : Tn} {k j : Nat} {x y c : Int32} (h : OuT T k x y c) (hk : k < 1000) (hj : twin T j k) (hf : ∀ i, i < j → ¬ twin T i k) : OuT T (k + 1) (if j < k ∧ ¬ 0 ≤ y then nI j else x) (if j < k ∧ ¬ 0 ≤ y then nI k else y) (c + 1) := by
  obtain ⟨⟨cs, a1, a2, a3⟩, h2⟩ := h
  refine ⟨⟨cs ++ [k], ?_, fun n => ?_, by rw [a3, nI_1, List.length_append]; rfl⟩, ?_⟩
  · refine List.nodup_append.mpr ⟨a1, by simp, fun a ha b hb => ?_⟩
    have : b = k := by simpa using hb
    have := (a2 a).mp ha
    omega
  · rw [List.mem_append, a2 n]
    constructor
    · rintro (⟨q1, q2⟩ | q)
      · exact ⟨by omega, q2⟩
      · have : n = k := by simpa using q
        subst this
        exact ⟨by omega, j, hj.sy⟩
    · rintro ⟨q1, q2⟩
      by_cases c : n = k
      · exact Or.inr (by simp [c])
      · exact Or.inl ⟨by omega, q2⟩
  · rcases h2 with ⟨q1, q2, q3⟩ | ⟨n, m, q0, q00, q1, q2, q⟩
    · have ny : ¬ 0 ≤ y := by rw [q2]; decide
      by_cases c : j < k
      · rw [if_pos ⟨c, ny⟩, if_pos ⟨c, ny⟩]
        refine Or.inr ⟨j, k, by omega, hk, rfl, rfl, c, hj, q3, fun n' h1 h2 => ?_⟩
        rcases Nat.lt_or_ge n' j with z | z
        · exact absurd h1 (hf n' z)
        · exact z
      · rw [if_neg (fun q => c q.1), if_neg (fun q => c q.1)]
        refine Or.inl ⟨q1, q2, fun n m h1 h2 => ?_⟩
        have := q3 n m h1 h2
        by_cases e : m = k
        · subst e; exact absurd h1 (hf n (by omega))
        · omega
    · have ny : 0 ≤ y := by rw [q2]; exact ge0 (by omega)
      rw [if_neg (fun q => q.2 ny), if_neg (fun q => q.2 ny)]
      exact Or.inr ⟨n, m, by omega, q00, q1, q2, q⟩
theorem OuT.tw {T : Tn} {x y c : Int32} (h : OuT T 1000 x y c) : IsTw T x y c := by
  obtain ⟨⟨cs, a1, a2, a3⟩, h2⟩ := h
  refine ⟨⟨cs, a1, fun n => ?_, a3⟩, ?_⟩
  · rw [a2 n]
    exact ⟨fun q => q.2, fun q => ⟨by obtain ⟨m, q⟩ := q; exact q.2.1, q⟩⟩
  · rcases h2 with ⟨q1, q2, q3⟩ | ⟨n, m, q0, q00, q⟩
    · refine Or.inl ⟨q1, q2, fun n m h1 => ?_⟩
      have b := h1.2.2.1
      have b2 := h1.2.1
      rcases Nat.lt_or_gt_of_ne h1.1 with z | z
      · have := q3 n m h1 z; omega
      · have := q3 m n h1.sy z; omega
    · exact Or.inr ⟨n, m, q⟩
theorem twI_ok {F t m : Nat} {x2 x3 x4 x5 : Int32} {T : Tn} {M : zM} (hT : ∀ n, n < 1000 → MN (1000 * t + n) (T.2 n) M) (hok : ∀ n, n < 1000 → ∀ w b d, T.2 n = some (w, b, d) → okW w) (h94 : ∀ n, n < 1000 → M.2 94 n = hshF (rnN T n) (rnN T n).length) (ht : t < 3) (hm : m < 1000) (hF : 3000 < F) : ∃ M1, f9x M M1 ∧ ((loopN (Mod_twins_B57 F (nI t) x2 x5 (nI m)) F (x3, x4, 0, 0, M) = some (1, x3, x4, 0, 0, M1) ∧ ∀ k, k < 1000 → frT T m k = false) ∨ ∃ k, k < 1000 ∧ frT T m k = true ∧ (∀ i, i < k → frT T m i = false) ∧ loopN (Mod_twins_B57 F (nI t) x2 x5 (nI m)) F (x3, x4, 0, 0, M) = some (1, (if k < m ∧ ¬ 0 ≤ x4 then nI k else x3), (if k < m ∧ ¬ 0 ≤ x4 then nI m else x4), 1, 0, M1)) := by
  have key := loopN_inv (body := Mod_twins_B57 F (nI t) x2 x5 (nI m)) (I := fun n s => ∃ M1, f9x M M1 ∧ ((s = (x3, x4, 0, nI n, M1) ∧ ∀ k, k < n → frT T m k = false) ∨ ∃ k, k < 1000 ∧ frT T m k = true ∧ (∀ i, i < k → frT T m i = false) ∧ s = ((if k < m ∧ ¬ 0 ≤ x4 then nI k else x3), (if k < m ∧ ¬ 0 ≤ x4 then nI m else x4), 1, nI n, M1))) (Qx := fun q => ∃ M1, f9x M M1 ∧ ((q = (1, x3, x4, 0, 0, M1) ∧ ∀ k, k < 1000 → frT T m k = false) ∨ ∃ k, k < 1000 ∧ frT T m k = true ∧ (∀ i, i < k → frT T m i = false) ∧ q = (1, (if k < m ∧ ¬ 0 ≤ x4 then nI k else x3), (if k < m ∧ ¬ 0 ≤ x4 then nI m else x4), 1, 0, M1))) (N := 1000) (F := F) (s := (x3, x4, 0, 0, M)) (fun n s hn hs => by
    obtain ⟨M1, f1, ⟨rfl, g1⟩ | ⟨k, k1, k2, k3, rfl⟩⟩ := hs
    · obtain ⟨M2, e2, f2⟩ := twS_ok (F := F) (x2 := x2) (x3 := x3) (x4 := x4) (x5 := x5) (fun n hn => f1.mn (hT n hn)) hok (fun n hn => by rw [f1.2]; exact h94 n hn) ht hm hn hF
      refine Or.inl ?_
      rw [e2]
      by_cases c : frT T m n = true
      · rw [if_pos c]
        by_cases d : n < m ∧ ¬ 0 ≤ x4
        · rw [if_pos d]
          refine ⟨_, rfl, M2, f1.tr f2, Or.inr ⟨n, hn, c, g1, ?_⟩⟩
          rw [if_pos d, if_pos d]
        · rw [if_neg d]
          refine ⟨_, rfl, M2, f1.tr f2, Or.inr ⟨n, hn, c, g1, ?_⟩⟩
          rw [if_neg d, if_neg d]
      · rw [if_neg c]
        refine ⟨_, rfl, M2, f1.tr f2, Or.inl ⟨rfl, fun k hk => ?_⟩⟩
        by_cases z : k = n
        · rw [z]; simpa using c
        · exact g1 k (by omega)
    · refine Or.inr ⟨(1, (if k < m ∧ ¬ 0 ≤ x4 then nI k else x3), (if k < m ∧ ¬ 0 ≤ x4 then nI m else x4), 1, 0, M1), ?_, (fun q => by cases q), M1, f1, Or.inr ⟨k, k1, k2, k3, rfl⟩⟩
      unfold Mod_twins_B57
      dsimp only
      rw [if_neg (show ¬ (1000 : Int32) ≤ nI n from nI_ge (b := 1000) hn (by decide)), if_neg (show ¬ (1 : Int32) = 0 by decide)]) (fun s hs => by
    obtain ⟨M1, f1, ⟨rfl, g1⟩ | ⟨k, k1, k2, k3, rfl⟩⟩ := hs
    · refine ⟨(1, x3, x4, 0, 0, M1), ?_, (fun q => by cases q), M1, f1, Or.inl ⟨rfl, g1⟩⟩
      unfold Mod_twins_B57
      exact if_pos (by decide)
    · refine ⟨(1, (if k < m ∧ ¬ 0 ≤ x4 then nI k else x3), (if k < m ∧ ¬ 0 ≤ x4 then nI m else x4), 1, 0, M1), ?_, (fun q => by cases q), M1, f1, Or.inr ⟨k, k1, k2, k3, rfl⟩⟩
      unfold Mod_twins_B57
      exact if_pos (by decide)) (by omega) ⟨M, f9x.rf, Or.inl ⟨rfl, fun k hk => absurd hk (Nat.not_lt_zero k)⟩⟩
  obtain ⟨q, e, M1, f1, ⟨rfl, g1⟩ | ⟨k, k1, k2, k3, rfl⟩⟩ := key
  · exact ⟨M1, f1, Or.inl ⟨e, g1⟩⟩
  · exact ⟨M1, f1, Or.inr ⟨k, k1, k2, k3, e⟩⟩
theorem twM_ok {F t : Nat} {x2 : Int32} {T : Tn} {M : zM} (hT : ∀ n, n < 1000 → MN (1000 * t + n) (T.2 n) M) (hok : ∀ n, n < 1000 → ∀ w b d, T.2 n = some (w, b, d) → okW w) (h94 : ∀ n, n < 1000 → M.2 94 n = hshF (rnN T n) (rnN T n).length) (ht : t < 3) (hF : 3000 < F) : ∃ x y c M1, loopN (Mod_twins_B43 F (nI t) x2) F (-1, -1, 0, 0, M) = some (1, x, y, c, 0, M1) ∧ IsTw T x y c ∧ f9x M M1 := by
  have key := loopN_inv (body := Mod_twins_B43 F (nI t) x2) (I := fun k s => ∃ x y c M1, s = (x, y, c, nI k, M1) ∧ OuT T k x y c ∧ f9x M M1) (Qx := fun q => ∃ x y c M1, q = (1, x, y, c, 0, M1) ∧ IsTw T x y c ∧ f9x M M1) (N := 1000) (F := F) (s := (-1, -1, 0, 0, M)) (fun k s hk hs => by
    obtain ⟨x, y, c, M1, rfl, o1, f1⟩ := hs
    obtain ⟨M2, f2, ⟨e, g⟩ | ⟨j, k1, k2, k3, e⟩⟩ := twI_ok (F := F) (x2 := x2) (x3 := x) (x4 := y) (x5 := c) (fun n hn => f1.mn (hT n hn)) hok (fun n hn => by rw [f1.2]; exact h94 n hn) ht hk hF
    · refine Or.inl ⟨(x, y, c + 0, nI (k + 1), M2), ?_, x, y, c + 0, M2, rfl, o1.no (fun n hn => by have := (frT_iff hn.2.1 hk).mpr hn; rw [g n hn.2.1] at this; cases this), f1.tr f2⟩
      unfold Mod_twins_B43
      dsimp only [lt]
      rw [if_neg (show ¬ (1000 : Int32) ≤ nI k from nI_ge (b := 1000) hk (by decide)), e, Option.bind_some]
      dsimp only
      rw [if_pos rfl]
      unfold Mod_twins_J152
      dsimp only [lt]
      rw [if_pos rfl, nI_1]
    · refine Or.inl ⟨((if j < k ∧ ¬ 0 ≤ y then nI j else x), (if j < k ∧ ¬ 0 ≤ y then nI k else y), c + 1, nI (k + 1), M2), ?_, _, _, c + 1, M2, rfl, o1.ye hk ((frT_iff k1 hk).mp k2) (fun i hi hn => by have := (frT_iff hn.2.1 hk).mpr hn; rw [k3 i hi] at this; cases this), f1.tr f2⟩
      unfold Mod_twins_B43
      dsimp only [lt]
      rw [if_neg (show ¬ (1000 : Int32) ≤ nI k from nI_ge (b := 1000) hk (by decide)), e, Option.bind_some]
      dsimp only
      rw [if_pos rfl]
      unfold Mod_twins_J152
      dsimp only [lt]
      rw [if_neg (by decide), nI_1]) (fun s hs => by
    obtain ⟨x, y, c, M1, rfl, o1, f1⟩ := hs
    refine ⟨(1, x, y, c, 0, M1), ?_, (fun q => by cases q), x, y, c, M1, rfl, o1.tw, f1⟩
    unfold Mod_twins_B43
    exact if_pos (by decide)) (by omega) ⟨-1, -1, 0, M, rfl, ⟨⟨[], List.nodup_nil, fun n => ⟨fun q => (by cases q), fun q => absurd q.1 (Nat.not_lt_zero n)⟩, rfl⟩, Or.inl ⟨rfl, rfl, fun n m _ _ => Nat.zero_le _⟩⟩, f9x.rf⟩
  obtain ⟨q, e, x, y, c, M1, rfl, r⟩ := key
  exact ⟨x, y, c, M1, e, r⟩
theorem IsTw.one {T : Tn} {x y c x' y' c' : Int32} (h : IsTw T x y c) (h' : IsTw T x' y' c') : x = x' ∧ y = y' ∧ c = c' := by
  obtain ⟨⟨cs, a1, a2, a3⟩, b⟩ := h
  obtain ⟨⟨cs', a1', a2', a3'⟩, b'⟩ := h'
  have ec : c = c' := by
    rw [a3, a3', ((List.perm_ext_iff_of_nodup a1 a1').mpr (fun n => by rw [a2, a2'])).length_eq]
  have exy : x = x' ∧ y = y' := by
    rcases b with ⟨p1, p2, p3⟩ | ⟨n, m, p1, p2, p3, p4, p5, p6⟩
    · rcases b' with ⟨q1, q2, q3⟩ | ⟨n', m', q1, q2, q3, q4, q5, q6⟩
      · exact ⟨p1.trans q1.symm, p2.trans q2.symm⟩
      · exact absurd q4 (p3 n' m')
    · rcases b' with ⟨q1, q2, q3⟩ | ⟨n', m', q1, q2, q3, q4, q5, q6⟩
      · exact absurd p4 (q3 n m)
      · have em : m = m' := Nat.le_antisymm (p5 n' m' q4 q3) (q5 n m p4 p3)
        subst em
        have en : n = n' := Nat.le_antisymm (p6 n' q4 q3) (q6 n p4 p3)
        subst en
        exact ⟨p1.trans q1.symm, p2.trans q2.symm⟩
  exact ⟨exy.1, exy.2, ec⟩

/-! the class's merging of two runs -/
def seg (l : List Nat) (lo k : Nat) : List Nat := (l.drop lo).take k
theorem seg_len {l : List Nat} {lo k : Nat} (h : lo + k ≤ l.length) : (seg l lo k).length = k := by
  unfold seg; rw [List.length_take, List.length_drop]; omega
theorem seg_get {l : List Nat} {lo k j : Nat} (hj : j < k) : (seg l lo k).getD j 0 = l.getD (lo + j) 0 := by
  unfold seg
  rw [List.getD_eq_getElem?_getD, List.getElem?_take_of_lt hj, List.getElem?_drop, List.getD_eq_getElem?_getD]
theorem seg_eq {l l' : List Nat} {lo k : Nat} (e : l'.length = l.length) (h : ∀ j, lo ≤ j → j < lo + k → l'.getD j 0 = l.getD j 0) : seg l' lo k = seg l lo k := by
  refine list_getD_ext (by unfold seg; rw [List.length_take, List.length_take, List.length_drop, List.length_drop, e]) (fun j hj => ?_)
  have hj : j < k := by unfold seg at hj; rw [List.length_take] at hj; omega
  rw [seg_get hj, seg_get hj]
  exact h _ (by omega) (by omega)
theorem seg_mem {l : List Nat} {lo k x : Nat} (h : x ∈ seg l lo k) : x ∈ l := List.mem_of_mem_drop (List.mem_of_mem_take h)
def leT (T : Tn) (a b : Nat) : Bool := !ahB (nmW T b) (nmW T a) b a
theorem leT_iff {T : Tn} {a b : Nat} : leT T a b = true ↔ ¬ ahead T b a := by
  unfold leT
  rw [← ahB_iff]
  cases ahB (nmW T b) (nmW T a) b a <;> simp
theorem leT_tr {T : Tn} (a b c : Nat) (h1 : leT T a b = true) (h2 : leT T b c = true) : leT T a c = true := by
  rw [leT_iff] at *
  intro h
  by_cases e1 : a = b
  · subst e1; exact h2 h
  · by_cases e2 : b = c
    · subst e2; exact h1 h
    · rcases ahead_tot (T := T) e1 with q | q
      · rcases ahead_tot (T := T) e2 with q2 | q2
        · exact ahead_irr (ahead_tr (ahead_tr q q2) h)
        · exact h2 q2
      · exact h1 q
theorem leT_to {T : Tn} (a b : Nat) : (leT T a b || leT T b a) = true := by
  rw [Bool.or_eq_true, leT_iff, leT_iff]
  by_cases h : ahead T b a
  · exact Or.inr (fun q => ahead_irr (ahead_tr h q))
  · exact Or.inl h
theorem leT_lt {T : Tn} {a b : Nat} (h : a < b) : leT T a b = !ltW (nmW T b) (nmW T a) := by
  unfold leT ahB
  rw [decide_eq_false (show ¬ b < a by omega), Bool.and_false, Bool.or_false]
def rowC (M0 M : zM) (c : Nat) (l : List Nat) : Prop := (∀ b, b ≠ c → b ≠ 51 → M.1 b = M0.1 b) ∧ M.2 = M0.2 ∧ ∀ j, j < l.length → M.1 c j = nI (l.getD j 0)
theorem drop_hd {R r : List Nat} {st x : Nat} (h : R.drop st = x :: r) : R.getD st 0 = x ∧ R.drop (st + 1) = r := by
  have hl : st < R.length := by
    rcases Nat.lt_or_ge st R.length with q | q
    · exact q
    · rw [List.drop_eq_nil_of_le q] at h; cases h
  rw [drop_c hl] at h
  injection h with h1 h2
  exact ⟨h1, h2⟩
theorem drop_get {R : List Nat} {a b : Nat} : (R.drop a).getD b 0 = R.getD (a + b) 0 := by
  rw [List.getD_eq_getElem?_getD, List.getElem?_drop, List.getD_eq_getElem?_getD]
theorem zCp_51 {M : zM} {c lo mid m : Nat} (h : lo + m < mid) (hm : mid ≤ 1000) : (zCp M c 51 (nI lo) (nI lo) (nI mid - nI lo)).1 51 (lo + m) = M.1 c (lo + m) := by
  unfold zCp va_up va_cpy
  rw [pk_sub (by omega), nI_clamp (by omega), nI_clamp (by omega)]
  simp only [if_true]
  rw [if_pos (by omega), show lo + (lo + m - lo) = lo + m by omega]
theorem zCp_o {M : zM} {c b lo mid : Nat} (h : b ≠ 51) : (zCp M c 51 (nI lo) (nI lo) (nI mid - nI lo)).1 b = M.1 b := by
  unfold zCp va_up
  simp [h]
theorem okc_m {lo mid n : Nat} (h1 : lo ≤ mid) (h2 : mid ≤ n) (h3 : n ≤ 1000) : okc (nI lo) (nI lo) (nI mid - nI lo) 1000 1000 = true := by
  unfold okc
  rw [pk_sub h1, nI_clamp (by omega), nI_clamp (by omega)]
  exact decide_eq_true ⟨nI_pos (by omega), nI_pos (by omega), nI_pos (by omega), by omega, by omega⟩
theorem mergeX {F c a5 lo mid hi : Nat} {T : Tn} {M0 M : zM} {l : List Nat} (hz : zN c = 1000) (hc : c ≠ 51) (hn : l.length ≤ 1000) (h1 : lo < mid) (h2 : mid < hi) (h3 : hi ≤ l.length) (hr : rowC M0 M c l) (hC : ∀ M', M'.2 = M0.2 → ∀ x y, x ∈ l → y ∈ l → Spe_compare F a5 (nI x) a5 (nI y) M' = some (cmpW (nmW T x) (nmW T y), M')) (hlt : ∀ a b, a ∈ seg l lo (mid - lo) → b ∈ seg l mid (hi - mid) → a < b) (hF : 3000 < F) : ∃ M1 l', Sor_merge F c (nI lo) (nI mid) (nI hi) a5 M = some ((), M1) ∧ rowC M0 M1 c l' ∧ l'.length = l.length ∧ (∀ j, (j < lo ∨ hi ≤ j) → l'.getD j 0 = l.getD j 0) ∧ seg l' lo (hi - lo) = List.merge (seg l lo (mid - lo)) (seg l mid (hi - mid)) (leT T) := by
  obtain ⟨r1, r2, r3⟩ := hr
  have hAl : (seg l lo (mid - lo)).length = mid - lo := seg_len (by omega)
  have hBl : (seg l mid (hi - mid)).length = hi - mid := seg_len (by omega)
  have hAg : ∀ m, m < mid - lo → (seg l lo (mid - lo)).getD m 0 = l.getD (lo + m) 0 := fun m hm => seg_get hm
  have hBg : ∀ m, m < hi - mid → (seg l mid (hi - mid)).getD m 0 = l.getD (mid + m) 0 := fun m hm => seg_get hm
  have hAm : ∀ x, x ∈ seg l lo (mid - lo) → x ∈ l := fun x hx => seg_mem hx
  have hBm : ∀ x, x ∈ seg l mid (hi - mid) → x ∈ l := fun x hx => seg_mem hx
  generalize seg l lo (mid - lo) = A at *
  generalize seg l mid (hi - mid) = B at *
  have hRl : (List.merge A B (leT T)).length = hi - lo := by rw [List.length_merge]; omega
  generalize eR : List.merge A B (leT T) = R at *
  have key := loopN_inv (body := Sor_merge_B22 F c (nI mid) (nI hi) a5) (I := fun st s => ∃ i j M1, s = (nI i, nI j, nI (lo + st), M1) ∧ lo ≤ i ∧ i ≤ mid ∧ mid ≤ j ∧ j ≤ hi ∧ i + j = lo + mid + st ∧ (∀ b, b ≠ c → b ≠ 51 → M1.1 b = M0.1 b) ∧ M1.2 = M0.2 ∧ (∀ m, m < mid - lo → M1.1 51 (lo + m) = nI (A.getD m 0)) ∧ (∀ m, m < l.length → (m < lo ∨ j ≤ m) → M1.1 c m = nI (l.getD m 0)) ∧ (∀ m, m < st → M1.1 c (lo + m) = nI (R.getD m 0)) ∧ R.drop st = List.merge (A.drop (i - lo)) (B.drop (j - mid)) (leT T)) (Qx := fun q => ∃ M1, q = (1, 0, 0, 0, M1) ∧ (∀ b, b ≠ c → b ≠ 51 → M1.1 b = M0.1 b) ∧ M1.2 = M0.2 ∧ (∀ m, m < l.length → (m < lo ∨ hi ≤ m) → M1.1 c m = nI (l.getD m 0)) ∧ (∀ m, m < hi - lo → M1.1 c (lo + m) = nI (R.getD m 0))) (N := hi - lo) (F := F) (s := (nI lo, nI mid, nI lo, zCp M c 51 (nI lo) (nI lo) (nI mid - nI lo))) (fun st s hst hs => by
    obtain ⟨i, j, M1, rfl, q1, q2, q3, q4, q5, q6, q7, q8, q9, q10, q11⟩ := hs
    unfold Sor_merge_B22
    dsimp only [lt]
    rw [if_neg (nI_ge (show lo + st < hi by omega) (by omega))]
    by_cases ci : i < mid
    · rw [if_neg (nI_ge ci (by omega))]
      have hA := drop_c (v := A) (i := i - lo) (by omega)
      have j63 : R.drop st = A.getD (i - lo) 0 :: List.merge (A.drop (i - lo + 1)) (B.drop (j - mid)) (leT T) → ∃ s', Sor_merge_J63 F c (nI mid) (nI hi) a5 (nI i) (nI j) (nI (lo + st)) M1 = some (0, s') ∧ ∃ i j M1, s' = (nI i, nI j, nI (lo + (st + 1)), M1) ∧ lo ≤ i ∧ i ≤ mid ∧ mid ≤ j ∧ j ≤ hi ∧ i + j = lo + mid + (st + 1) ∧ (∀ b, b ≠ c → b ≠ 51 → M1.1 b = M0.1 b) ∧ M1.2 = M0.2 ∧ (∀ m, m < mid - lo → M1.1 51 (lo + m) = nI (A.getD m 0)) ∧ (∀ m, m < l.length → (m < lo ∨ j ≤ m) → M1.1 c m = nI (l.getD m 0)) ∧ (∀ m, m < st + 1 → M1.1 c (lo + m) = nI (R.getD m 0)) ∧ R.drop (st + 1) = List.merge (A.drop (i - lo)) (B.drop (j - mid)) (leT T) := by
        intro hd
        obtain ⟨d1, d2⟩ := drop_hd hd
        have v := q8 (i - lo) (by omega)
        rw [show lo + (i - lo) = i by omega] at v
        unfold Sor_merge_J63
        dsimp only [lt]
        rw [hz, if_pos (inb_nI (by omega) (by decide)), if_pos (inb_nI (by omega) (by decide)), nI_clamp (by omega), nI_clamp (by omega), nI_1, nI_1, v]
        refine ⟨_, rfl, i + 1, j, _, rfl, by omega, by omega, q3, q4, by omega, fun b b1 b2 => (zI_other b1).trans (q6 b b1 b2), q7, fun m hm => ?_, fun m hm hm2 => ?_, fun m hm => ?_, ?_⟩
        · rw [zI_other (fun q => hc q.symm)]; exact q8 m hm
        · rw [zI_ne (Or.inr (by omega))]; exact q9 m hm hm2
        · by_cases z : m = st
          · rw [z, zI_in, d1]
          · rw [zI_ne (Or.inr (by omega))]; exact q10 m (by omega)
        · rw [d2, show i + 1 - lo = i - lo + 1 by omega]
      by_cases cj : j < hi
      · have hB := drop_c (v := B) (i := j - mid) (by omega)
        have ma : A.getD (i - lo) 0 ∈ A := getD_mem (by omega)
        have mb : B.getD (j - mid) 0 ∈ B := getD_mem (by omega)
        have v := q8 (i - lo) (by omega)
        rw [show lo + (i - lo) = i by omega] at v
        have w := q9 j (by omega) (Or.inr (Nat.le_refl _))
        have eb := hBg (j - mid) (by omega)
        rw [show mid + (j - mid) = j by omega] at eb
        rw [← eb] at w
        rw [if_neg (nI_ge cj (by omega)), hz, if_pos (inb_nI (by omega) (by decide)), if_pos (inb_nI (by omega) (by decide)), nI_clamp (by omega), nI_clamp (by omega), v, w, hC M1 q7 _ _ (hAm _ ma) (hBm _ mb), Option.bind_some]
        dsimp only
        rw [hA, hB, List.cons_merge_cons, leT_lt (hlt _ _ ma mb)] at q11
        by_cases cc : 0 < cmpW (nmW T (A.getD (i - lo) 0)) (nmW T (B.getD (j - mid) 0))
        · rw [if_pos cc, if_pos (inb_nI (by omega) (by decide)), nI_clamp (by omega), w]
          rw [cmpW_pos.mp cc, if_neg (by decide)] at q11
          obtain ⟨d1, d2⟩ := drop_hd q11
          refine Or.inl ⟨_, rfl, i, j + 1, _, by rw [nI_1, nI_1]; rfl, q1, q2, by omega, by omega, by omega, fun b b1 b2 => (zI_other b1).trans (q6 b b1 b2), q7, fun m hm => ?_, fun m hm hm2 => ?_, fun m hm => ?_, ?_⟩
          · rw [zI_other (fun q => hc q.symm)]; exact q8 m hm
          · rw [zI_ne (Or.inr (by omega))]; exact q9 m hm (by omega)
          · by_cases z : m = st
            · rw [z, zI_in, d1]
            · rw [zI_ne (Or.inr (by omega))]; exact q10 m (by omega)
          · rw [d2, hA, show j + 1 - mid = j - mid + 1 by omega]
        · rw [if_neg cc]
          have cf : ltW (nmW T (B.getD (j - mid) 0)) (nmW T (A.getD (i - lo) 0)) = false := by
            cases z : ltW (nmW T (B.getD (j - mid) 0)) (nmW T (A.getD (i - lo) 0)) with
            | false => rfl
            | true => exact absurd (cmpW_pos.mpr z) cc
          rw [cf, if_pos (by decide), ← hB] at q11
          exact Or.inl (j63 q11)
      · rw [if_pos (nI_le (show hi ≤ j by omega) (by omega))]
        have hB : B.drop (j - mid) = [] := List.drop_eq_nil_of_le (by omega)
        rw [hA, hB, List.merge_right] at q11
        exact Or.inl (j63 (by rw [q11, hB, List.merge_right]))
    · rw [if_pos (nI_le (show mid ≤ i by omega) (by omega))]
      have hA : A.drop (i - lo) = [] := List.drop_eq_nil_of_le (by omega)
      rw [hA, List.nil_merge] at q11
      refine Or.inr ⟨_, rfl, (fun q => by cases q), M1, rfl, q6, q7, fun m hm hm2 => q9 m hm (by omega), fun m hm => ?_⟩
      by_cases z : m < st
      · exact q10 m z
      · have e1 := drop_get (R := R) (a := st) (b := m - st)
        rw [q11, drop_get, hBg _ (by omega), show st + (m - st) = m by omega, show mid + (j - mid + (m - st)) = lo + m by omega] at e1
        rw [q9 (lo + m) (by omega) (Or.inr (by omega)), e1]) (fun s hs => by
    obtain ⟨i, j, M1, rfl, q1, q2, q3, q4, q5, q6, q7, q8, q9, q10, q11⟩ := hs
    refine ⟨(1, 0, 0, 0, M1), ?_, (fun q => by cases q), M1, rfl, q6, q7, fun m hm hm2 => q9 m hm (by omega), q10⟩
    unfold Sor_merge_B22
    dsimp only
    rw [if_pos (nI_le (by omega) (by omega))]) (by omega) ⟨lo, mid, _, rfl, Nat.le_refl _, by omega, Nat.le_refl _, by omega, by omega, fun b b1 b2 => (zCp_o b2).trans (r1 b b1 b2), r2, fun m hm => by rw [zCp_51 (by omega) (by omega), r3 _ (by omega), hAg m hm], fun m hm hm2 => by rw [zCp_o hc]; exact r3 m hm, fun m hm => absurd hm (Nat.not_lt_zero m), by rw [Nat.sub_self, Nat.sub_self, List.drop_zero, List.drop_zero, List.drop_zero, eR]⟩
  obtain ⟨q, e, M1, rfl, k1, k2, k3, k4⟩ := key
  have hll : (l.take lo ++ (R ++ l.drop hi)).length = l.length := by
    rw [List.length_append, List.length_append, List.length_take, List.length_drop]; omega
  have hlg : ∀ m, (l.take lo ++ (R ++ l.drop hi)).getD m 0 = if m < lo then l.getD m 0 else if m < hi then R.getD (m - lo) 0 else l.getD m 0 := fun m => by
    by_cases z : m < lo
    · rw [if_pos z, List.getD_eq_getElem?_getD, List.getElem?_append_left (by rw [List.length_take]; omega), List.getElem?_take_of_lt z, List.getD_eq_getElem?_getD]
    · rw [if_neg z, List.getD_eq_getElem?_getD, List.getElem?_append_right (by rw [List.length_take]; omega), List.length_take, show min lo l.length = lo by omega]
      by_cases z2 : m < hi
      · rw [if_pos z2, List.getElem?_append_left (by omega), List.getD_eq_getElem?_getD]
      · rw [if_neg z2, List.getElem?_append_right (by omega), List.getElem?_drop, hRl, show hi + (m - lo - (hi - lo)) = m by omega, List.getD_eq_getElem?_getD]
  refine ⟨M1, l.take lo ++ (R ++ l.drop hi), ?_, ⟨k1, k2, fun j hj => ?_⟩, hll, fun j hj => ?_, ?_⟩
  · unfold Sor_merge
    dsimp only [lt]
    rw [hz, if_pos (okc_m (n := 1000) (by omega) (by omega) (Nat.le_refl _)), e, Option.bind_some]
    rfl
  · rw [hll] at hj
    rw [hlg]
    by_cases z : j < lo
    · rw [if_pos z]; exact k3 j hj (Or.inl z)
    · rw [if_neg z]
      by_cases z2 : j < hi
      · rw [if_pos z2]
        have := k4 (j - lo) (by omega)
        rw [show lo + (j - lo) = j by omega] at this
        exact this
      · rw [if_neg z2]; exact k3 j hj (Or.inr (by omega))
  · rw [hlg]
    rcases hj with q | q
    · rw [if_pos q]
    · rw [if_neg (by omega), if_neg (by omega)]
  · refine list_getD_ext (by rw [seg_len (by omega)]; exact hRl.symm) (fun j hj => ?_)
    rw [seg_len (by omega)] at hj
    rw [seg_get hj, hlg, if_neg (by omega), if_pos (by omega), show lo + j - lo = j by omega]

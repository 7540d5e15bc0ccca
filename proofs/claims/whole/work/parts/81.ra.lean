/-! the class makes names: a name grows -/
def SL (w : List Nat) (d : Nat) (M : zM) : Prop := XL 45 w M ∧ XL 47 (runW w) M ∧ M.1 44 4 = nI d
def fS (M M1 : zM) : Prop := (∀ b, b ≠ 44 → b ≠ 45 → b ≠ 47 → M1.1 b = M.1 b) ∧ ∀ b, b ≠ 46 → b ≠ 48 → M1.2 b = M.2 b
theorem fS.rf {M : zM} : fS M M := ⟨fun _ _ _ _ => rfl, fun _ _ _ => rfl⟩
theorem fS.tr {M M1 M2 : zM} (h : fS M M1) (h2 : fS M1 M2) : fS M M2 := ⟨fun b b1 b2 b3 => (h2.1 b b1 b2 b3).trans (h.1 b b1 b2 b3), fun b b1 b2 => (h2.2 b b1 b2).trans (h.2 b b1 b2)⟩
theorem XL.fr {a c : Nat} {w : List Nat} {M M1 : zM} (h : XL a w M) (h1 : ∀ b, b ≠ c → M1.1 b = M.1 b) (h2 : ∀ b, b ≠ c + 1 → M1.2 b = M.2 b) (n1 : a ≠ c) : XL a w M1 := h.same (h1 a n1) (h2 (a + 1) (by omega))
theorem jnW_len {w v : List Nat} : (jnW w v).length = if v = [] then w.length else if w = [] then v.length else w.length + 1 + v.length := by
  unfold jnW
  by_cases c : v = []
  · rw [if_pos c, if_pos c]
  · rw [if_neg c, if_neg c]
    by_cases c2 : w = []
    · rw [if_pos c2, if_pos c2]
    · rw [if_neg c2, if_neg c2, List.length_append, List.length_cons]; omega
theorem gap_ok {F d : Nat} {w : List Nat} {M : zM} (h : SL w d M) : (w = [] → Nam_addGap F M = some (1, M)) ∧ (w ≠ [] → w.length + 1 ≤ 60 → ∃ M1, Nam_addGap F M = some (1, M1) ∧ XL 45 (w ++ [32]) M1 ∧ XL 47 (runW w) M1 ∧ M1.1 44 4 = nI d ∧ fS M M1) ∧ (w ≠ [] → 60 < w.length + 1 → Nam_addGap F M = some (0, M)) := by
  obtain ⟨x1, x2, x3⟩ := h
  have l60 := x1.1.1
  have st : Nam_addGap F M = if nI w.length = 0 then some ((1 : Int32), M) else (Lin_append F 45 (lN (pkN [32] 12)) 1 M).bind fun (r_8, M_9) => if r_8 = 0 then some ((0 : Int32), M_9) else some (1, M_9) := by
    unfold Nam_addGap Lin_size
    rw [Option.bind_some, x1.2.1]
    dsimp only
    rw [show Lin_signOf F 32 M = some (lN (pkN [32] 12), M) from signOf_ok (k := 32) (Or.inl rfl), Option.bind_some]
    rfl
  have hz : w ≠ [] → ¬ nI w.length = 0 := fun q z => by
    have := (nI_eq (b := 0) (by omega) (by decide)).mp z
    exact q (List.length_eq_zero_iff.mp this)
  refine ⟨fun q => ?_, fun q hl => ?_, fun q hl => ?_⟩
  · rw [st, q]; rfl
  · obtain ⟨M1, k1, k2, k3, k4⟩ := append_ok (F := F) (v := [32]) x1 (fun k hk => by rw [List.mem_singleton.mp hk]; exact Or.inl rfl) (by decide) (by decide) hl
    have k1 : Lin_append F 45 (lN (pkN [32] 12)) 1 M = some (1, M1) := k1
    refine ⟨M1, ?_, k2, x2.fr (c := 45) k3 k4 (by decide), by rw [k3 44 (by decide)]; exact x3, fun b b1 b2 b3 => k3 b b2, fun b b1 b2 => k4 b b1⟩
    rw [st, if_neg (hz q), k1, Option.bind_some]; rfl
  · have k := append_no (F := F) (v := [32]) (s := lN (pkN [32] 12)) x1 (by decide) hl
    have k : Lin_append F 45 (lN (pkN [32] 12)) 1 M = some (0, M) := k
    rw [st, if_neg (hz q), k, Option.bind_some]; rfl
theorem runW_id {l : List Nat} (h : ∀ k ∈ l, 97 ≤ k ∧ k ≤ 122) : runW l = l := by
  unfold runW
  rw [List.filter_eq_self]
  intro k hk
  have := h k hk
  simp
  omega
theorem runW_jn {w v : List Nat} : runW (jnW w v) = runW w ++ runW v := by
  unfold jnW
  by_cases c : v = []
  · rw [if_pos c, c]; simp [runW]
  · rw [if_neg c]
    by_cases c2 : w = []
    · rw [if_pos c2, c2]; simp [runW]
    · rw [if_neg c2, runW_app]; simp [runW]
theorem addL_ok {F d : Nat} {w l : List Nat} {M : zM} (h : SL w d M) (h1 : 0 < l.length) (h12 : l.length ≤ 12) (hl : ∀ k ∈ l, 97 ≤ k ∧ k ≤ 122) : ∃ M1, Nam_addLetters F (pk l 0) (nI l.length) M = some (bI (decide ((jnW w l).length ≤ 60)), M1) ∧ fS M M1 ∧ ((jnW w l).length ≤ 60 → SL (jnW w l) d M1) := by
  have lne : l ≠ [] := fun q => by rw [q] at h1; exact absurd h1 (Nat.lt_irrefl 0)
  have hlt : ∀ k ∈ l, isLt k := fun k hk => Or.inr (hl k hk)
  have jl := jnW_len (w := w) (v := l)
  rw [if_neg lne] at jl
  obtain ⟨g1, g2, g3⟩ := gap_ok (F := F) h
  have lr := runW_len w
  have main : ∀ (u : List Nat) (Mg : zM), Nam_addGap F M = some (1, Mg) → XL 45 u Mg → XL 47 (runW w) Mg → Mg.1 44 4 = nI d → fS M Mg → jnW w l = u ++ l → w.length ≤ u.length → ∃ M1, Nam_addLetters F (pk l 0) (nI l.length) M = some (bI (decide ((jnW w l).length ≤ 60)), M1) ∧ fS M M1 ∧ ((jnW w l).length ≤ 60 → SL (jnW w l) d M1) := fun u Mg e0 e1 e2 e3 e4 e5 e6 => by
    have el : (jnW w l).length = u.length + l.length := by rw [e5, List.length_append]
    unfold Nam_addLetters
    rw [e0, Option.bind_some]
    dsimp only
    rw [if_neg (by decide), show pk l 0 = lN (pkN l 12) from rfl]
    by_cases c : u.length + l.length ≤ 60
    · obtain ⟨M1, k1, k2, k3, k4⟩ := append_ok (F := F) (v := l) e1 hlt h1 h12 c
      obtain ⟨M2, q1, q2, q3, q4⟩ := append_ok (F := F) (v := l) (e2.fr (c := 45) k3 k4 (by decide)) hlt h1 h12 (by omega)
      rw [k1, Option.bind_some]
      dsimp only
      rw [if_neg (by decide), q1, Option.bind_some, el, decide_eq_true c]
      refine ⟨M2, rfl, e4.tr ⟨fun b b1 b2 b3 => (q3 b b3).trans (k3 b b2), fun b b1 b2 => (q4 b b2).trans (k4 b b1)⟩, fun _ => ⟨?_, ?_, by rw [q3 44 (by decide), k3 44 (by decide)]; exact e3⟩⟩
      · rw [e5]; exact k2.fr (c := 47) q3 q4 (by decide)
      · rw [runW_jn, runW_id hl]; exact q2
    · have k := append_no (F := F) (v := l) (s := lN (pkN l 12)) e1 h12 (by omega)
      rw [k, Option.bind_some, el, decide_eq_false c]
      exact ⟨Mg, rfl, e4, fun q => absurd q c⟩
  by_cases cw : w = []
  · exact main w M (g1 cw) h.1 h.2.1 h.2.2 fS.rf (by unfold jnW; rw [if_neg lne, if_pos cw, cw]; rfl) (Nat.le_refl _)
  · by_cases cl : w.length + 1 ≤ 60
    · obtain ⟨Mg, k1, k2, k3, k4, k5⟩ := g2 cw cl
      exact main (w ++ [32]) Mg k1 k2 k3 k4 k5 (by unfold jnW; rw [if_neg lne, if_neg cw]; simp) (by rw [List.length_append]; omega)
    · rw [if_neg cw] at jl
      refine ⟨M, ?_, fS.rf, fun q => by omega⟩
      unfold Nam_addLetters
      rw [g3 cw (by omega), Option.bind_some, decide_eq_false (by omega)]
      rfl
def blk (v : List Nat) (i : Nat) : List Nat := (v.drop (12 * i)).take 12
theorem blk_pk {v : List Nat} {i : Nat} : pk v i = lN (pkN (blk v i) 12) := by
  unfold pk blk
  congr 1
  by_cases c : 12 ≤ (v.drop (12 * i)).length
  · have h := pkN_take 12 ((v.drop (12 * i)).take 12) ((v.drop (12 * i)).drop 12) (by rw [List.length_take]; omega)
    rw [List.take_append_drop] at h
    exact h
  · rw [List.take_of_length_le (by omega)]
theorem blk_s {v : List Nat} {i : Nat} : v.take (12 * (i + 1)) = v.take (12 * i) ++ blk v i := by
  unfold blk
  rw [Nat.mul_succ, List.take_add]
theorem row_ok {F a0 a1 n : Nat} {w v : List Nat} {M : zM} (h : XL a0 w M) (hv : okW v) (hn : a1 ≠ a0) (hN : 5 * n + 5 ≤ zN (a1 + 1)) (hN2 : zN (a1 + 1) < 2 ^ 31) (hp : ∀ i, i < 5 → M.2 (a1 + 1) (5 * n + i) = pk v i) (hF : 3000 < F) : ∃ M1, Lin_appendRow F a0 a1 (nI n) (nI v.length) M = some (bI (decide (w.length + v.length ≤ 60)), M1) ∧ (∀ b, b ≠ a0 → M1.1 b = M.1 b) ∧ (∀ b, b ≠ a0 + 1 → M1.2 b = M.2 b) ∧ (w.length + v.length ≤ 60 → XL a0 (w ++ v) M1) := by
  have lv := hv.1
  have key := loopN_inv (body := Lin_appendRow_B3 F a0 a1 (nI n) (nI v.length)) (I := fun i s => ∃ M1, s = (nI i, M1) ∧ XL a0 (w ++ v.take (12 * i)) M1 ∧ (∀ b, b ≠ a0 → M1.1 b = M.1 b) ∧ (∀ b, b ≠ a0 + 1 → M1.2 b = M.2 b)) (Qx := fun q => ∃ M1, (q = (1, 0, M1) ∧ 60 < w.length + v.length ∨ q = (2, 0, M1) ∧ XL a0 (w ++ v) M1) ∧ (∀ b, b ≠ a0 → M1.1 b = M.1 b) ∧ (∀ b, b ≠ a0 + 1 → M1.2 b = M.2 b)) (N := 5) (F := F) (s := (0, M)) (fun i s hi hs => by
    obtain ⟨M1, rfl, x, f1, f2⟩ := hs
    have i12 : nI i * 12 = nI (i * 12) := pk_mul _ 12
    unfold Lin_appendRow_B3
    dsimp only [lt]
    rw [if_neg (show ¬ (5 : Int32) ≤ nI i from nI_ge (b := 5) hi (by decide)), i12]
    by_cases c : v.length ≤ 12 * i
    · rw [if_pos (nI_le (by omega) (by omega))]
      rw [List.take_of_length_le c] at x
      exact Or.inr ⟨_, rfl, (fun q => by cases q), M1, Or.inr ⟨rfl, x⟩, f1, f2⟩
    · have bl : (blk v i).length = min (v.length - i * 12) 12 := by unfold blk; rw [List.length_take, List.length_drop]; omega
      have bb : ∀ k ∈ blk v i, isLt k := fun k hk => hv.2 k (List.mem_of_mem_drop (List.mem_of_mem_take hk))
      have tl : (w ++ v.take (12 * i)).length = w.length + 12 * i := by rw [List.length_append, List.length_take]; omega
      rw [if_neg (nI_ge (by omega) (by omega)), signs_ok (by omega) hN2, Option.bind_some]
      dsimp only
      rw [f2 (a1 + 1) (by omega), hp i hi, blk_pk, pk_sub (by omega), show jmn (nI (v.length - i * 12)) 12 = nI (blk v i).length from by rw [bl]; exact jmn_nI (b := 12) (by omega) (by decide)]
      by_cases cl : w.length + 12 * i + (blk v i).length ≤ 60
      · obtain ⟨M2, k1, k2, k3, k4⟩ := append_ok (F := F) (v := blk v i) x bb (by omega) (by omega) (by omega)
        rw [k1, Option.bind_some]
        dsimp only
        rw [if_neg (by decide), nI_1]
        refine Or.inl ⟨_, rfl, M2, rfl, ?_, fun b hb => (k3 b hb).trans (f1 b hb), fun b hb => (k4 b hb).trans (f2 b hb)⟩
        rw [blk_s, ← List.append_assoc]; exact k2
      · have k := append_no (F := F) (v := blk v i) (s := lN (pkN (blk v i) 12)) x (by omega) (by omega)
        rw [k, Option.bind_some]
        refine Or.inr ⟨(1, 0, M1), rfl, (fun q => by cases q), M1, Or.inl ⟨rfl, ?_⟩, f1, f2⟩
        omega) (fun s hs => by
    obtain ⟨M1, rfl, x, f1, f2⟩ := hs
    rw [List.take_of_length_le (by omega)] at x
    refine ⟨(2, 0, M1), ?_, (fun q => by cases q), M1, Or.inr ⟨rfl, x⟩, f1, f2⟩
    unfold Lin_appendRow_B3
    exact if_pos (by decide)) (by omega) ⟨M, rfl, by rw [Nat.mul_zero, List.take_zero, List.append_nil]; exact h, fun _ _ => rfl, fun _ _ => rfl⟩
  obtain ⟨q, e, M1, hq, f1, f2⟩ := key
  unfold Lin_appendRow
  rw [e, Option.bind_some]
  rcases hq with ⟨rfl, r⟩ | ⟨rfl, r⟩
  · refine ⟨M1, ?_, f1, f2, fun q => by omega⟩
    rw [decide_eq_false (by omega)]; rfl
  · have := r.1.1
    rw [List.length_append] at this
    refine ⟨M1, ?_, f1, f2, fun _ => r⟩
    rw [decide_eq_true this]; rfl

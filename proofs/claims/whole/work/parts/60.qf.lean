/-! twins: the reference -/
def rnN (T : Tn) (n : Nat) : List Nat := runW (nmW T n)
def twB (T : Tn) (n m : Nat) : Bool := (T.2 n).isSome && (T.2 m).isSome && decide (rnN T n = rnN T m)
theorem rnO_N (T : Tn) (n : Nat) : rnO (T.2 n) = rnN T n := by
  unfold rnO rnN nmW
  cases T.2 n with
  | none => rfl
  | some q => rfl
def hshF (w : List Nat) : Nat → Int64
  | 0 => (nI w.length).toInt64
  | i + 1 => hshF w i * 1000003 + (nI (w.getD i 0)).toInt64
def f9y (M M1 : zM) : Prop := (∀ b, b ≠ 92 → b ≠ 93 → b ≠ 96 → M1.1 b = M.1 b) ∧ ∀ b, b ≠ 94 → M1.2 b = M.2 b
theorem f9y.mn {M M1 : zM} {j : Nat} {q : Option Nm} (h : f9y M M1) (r : MN j q M) : MN j q M1 := r.same (fun b b1 b2 => ⟨h.1 b (by omega) (by omega) (by omega), h.2 b (by omega)⟩)
theorem f9y.lo {M M1 : zM} (h : f9y M M1) : sameLo M M1 := fun b hb => ⟨h.1 b (by omega) (by omega) (by omega), h.2 b (by omega)⟩
theorem f9y.rm {S : Sp} {M M1 : zM} (h : f9y M M1) (r : RM S M) : RM S M1 := by
  obtain ⟨h1, h2, h3, h4, h5, h6, h7⟩ := r
  have e63 := h.1 63 (by decide) (by decide) (by decide)
  refine ⟨by rw [e63]; exact h1, by rw [h.1 79 (by decide) (by decide) (by decide)]; exact h2, by rw [e63]; exact h3, fun t ht => ⟨by rw [h.1 64 (by decide) (by decide) (by decide)]; exact (h4 t ht).1, fun n hn => h.mn ((h4 t ht).2 n hn)⟩, by rw [e63]; exact h5, by rw [h.1 95 (by decide) (by decide) (by decide)]; exact h6, ?_, h7.2.same (h.1 87 (by decide) (by decide) (by decide))⟩
  rw [e63, h.1 91 (by decide) (by decide) (by decide)]; exact h7.1
theorem f9x.y {M M1 : zM} (h : f9x M M1) : f9y M M1 := ⟨h.1, fun b _ => by rw [h.2]⟩
theorem f9y.tr {M M1 M2 : zM} (h : f9y M M1) (h2 : f9y M1 M2) : f9y M M2 := ⟨fun b b1 b2 b3 => (h2.1 b b1 b2 b3).trans (h.1 b b1 b2 b3), fun b hb => (h2.2 b hb).trans (h.2 b hb)⟩
theorem f9y.rf {M : zM} : f9y M M := ⟨fun _ _ _ _ => rfl, fun _ _ => rfl⟩
theorem rn_ok {T : Tn} (hok : ∀ n, n < 1000 → ∀ w b d, T.2 n = some (w, b, d) → okW w) {n : Nat} (hn : n < 1000) : okW (rnN T n) := by
  unfold rnN nmW
  cases e : T.2 n with
  | none => exact ⟨by decide, fun k hk => by cases hk⟩
  | some q => exact okW_run (hok n hn q.1 q.2.1 q.2.2 e)
theorem mixes_ok {F t : Nat} {T : Tn} {M : zM} (hT : ∀ n, n < 1000 → MN (1000 * t + n) (T.2 n) M) (hok : ∀ n, n < 1000 → ∀ w b d, T.2 n = some (w, b, d) → okW w) (ht : t < 3) (hF : 3000 < F) : ∃ M1, Mod_findMixes F (nI t) M = some ((), M1) ∧ f9y M M1 ∧ ∀ n, n < 1000 → M1.2 94 n = hshF (rnN T n) (rnN T n).length := by
  have o1 : ∀ n, n < 1000 → ∀ z, T.2 n = some z → okW z.1 := fun n hn z e => hok n hn z.1 z.2.1 z.2.2 e
  have key := loopN_inv (body := Mod_findMixes_B2 F (nI t)) (I := fun i s => ∃ M1, s = (nI i, M1) ∧ f9y M M1 ∧ ∀ n, n < i → M1.2 94 n = hshF (rnN T n) (rnN T n).length) (Qx := fun q => ∃ M1, q = (1, 0, M1) ∧ f9y M M1 ∧ ∀ n, n < 1000 → M1.2 94 n = hshF (rnN T n) (rnN T n).length) (N := 1000) (F := F) (s := (0, M)) (fun i s hi hs => by
    obtain ⟨M1, rfl, f1, g1⟩ := hs
    obtain ⟨M2, e2, c2⟩ := runOf_ok (F := F) (a := 92) (f1.mn (hT i hi)) (o1 i hi) ht hi (Or.inl rfl) hF
    rw [rnO_N] at e2 c2
    have lr := (rn_ok hok hi).1
    have key := loopN_seq (body := Mod_findMixes_B27 F (nI t) (nI i) (nI (rnN T i).length)) (rnN T i).length (fun j => (hshF (rnN T i) j, nI j, M2)) (1, hshF (rnN T i) (rnN T i).length, 0, M2) F (fun j hj => by
      unfold Mod_findMixes_B27
      dsimp only [lt]
      rw [if_neg (nI_ge hj (by omega)), if_pos (inb_nI (by omega) (by decide)), nI_clamp (by omega), c2.2.2 j hj, nI_1]
      rfl) (by
      unfold Mod_findMixes_B27
      dsimp only
      rw [if_pos (nI_le (Nat.le_refl _) (by omega))]) (fun q => by cases q) (by omega)
    have key : loopN (Mod_findMixes_B27 F (nI t) (nI i) (nI (rnN T i).length)) F ((nI (rnN T i).length).toInt64, 0, M2) = _ := key
    refine Or.inl ⟨(nI (i + 1), zL M2 94 i (hshF (rnN T i) (rnN T i).length)), ?_, _, rfl, ⟨fun b b1 b2 b3 => (c2.1 b b1).trans (f1.1 b b1 b2 b3), fun b hb => (zL_other hb).trans (by rw [c2.2.1]; exact f1.2 b hb)⟩, fun n hn => ?_⟩
    · unfold Mod_findMixes_B2
      dsimp only [lt]
      rw [if_neg (show ¬ (1000 : Int32) ≤ nI i from nI_ge (b := 1000) hi (by decide)), e2, Option.bind_some]
      dsimp only
      rw [key, Option.bind_some]
      dsimp only
      rw [if_pos rfl, if_pos (inb_nI hi (by decide)), nI_clamp (by omega), nI_1]
    · by_cases c : n = i
      · rw [c, zL_in]
      · rw [zL_ne (Or.inr c), c2.2.1]; exact g1 n (by omega)) (fun s hs => by
    obtain ⟨M1, rfl, f1, g1⟩ := hs
    refine ⟨_, ?_, (fun q => by cases q), M1, rfl, f1, g1⟩
    unfold Mod_findMixes_B2
    exact if_pos (by decide)) (by omega) ⟨M, rfl, f9y.rf, fun n hn => absurd hn (Nat.not_lt_zero n)⟩
  obtain ⟨q, e, M1, rfl, r⟩ := key
  refine ⟨M1, ?_, r⟩
  unfold Mod_findMixes
  rw [e, Option.bind_some]
  rfl
theorem lgc_eq {x y : Int64} : lg_cmp x y = 0 ↔ x = y := by
  have h1 := cmp_lt (x := x) (y := y)
  have h2 := cmp_gt (x := x) (y := y)
  constructor
  · intro h
    rw [h] at h1 h2
    have a1 : ¬ x < y := fun q => absurd (h1.mpr q) (by decide)
    have a2 : ¬ y < x := fun q => absurd (h2.mpr q) (by decide)
    rw [Int64.lt_iff_toInt_lt] at a1 a2
    exact Int64.toInt_inj.mp (by omega)
  · intro h
    subst h
    have e0 : (0 : Int32).toInt = 0 := by decide
    have a1 : ¬ x < x := fun q => by rw [Int64.lt_iff_toInt_lt] at q; omega
    have b1 : ¬ lg_cmp x x < 0 := fun q => a1 (h1.mp q)
    have b2 : ¬ 0 < lg_cmp x x := fun q => a1 (h2.mp q)
    rw [Int32.lt_iff_toInt_lt, e0] at b1 b2
    exact Int32.toInt_inj.mp (by rw [e0]; omega)
theorem areTw_ok {F t n m : Nat} {T : Tn} {M : zM} (hT : ∀ n, n < 1000 → MN (1000 * t + n) (T.2 n) M) (hok : ∀ n, n < 1000 → ∀ w b d, T.2 n = some (w, b, d) → okW w) (h94 : ∀ n, n < 1000 → M.2 94 n = hshF (rnN T n) (rnN T n).length) (ht : t < 3) (hn : n < 1000) (hm : m < 1000) (hF : 3000 < F) : ∃ M1, Mod_areTwins F (nI t) (nI n) (nI m) M = some (bI (twB T n m), M1) ∧ f9x M M1 := by
  have o1 : ∀ n, n < 1000 → ∀ z, T.2 n = some z → okW z.1 := fun n hn z e => hok n hn z.1 z.2.1 z.2.2 e
  have e1 : inb (nI (1000 * t + n)) 3000 = true := inb_nI (by omega) (by decide)
  have e2 : (nI (1000 * t + n)).toNatClampNeg = 1000 * t + n := nI_clamp (by omega)
  have e3 : inb (nI (1000 * t + m)) 3000 = true := inb_nI (by omega) (by decide)
  have e4 : (nI (1000 * t + m)).toNatClampNeg = 1000 * t + m := nI_clamp (by omega)
  have okl : ∀ k, k < 1000 → (T.2 k).isSome = true → (nmW T k).length ≤ 60 := fun k hk sk => by
    obtain ⟨⟨w, b, d⟩, e⟩ := Option.isSome_iff_exists.mp sk
    have n1 : nmW T k = w := by unfold nmW; rw [e]
    rw [n1]; exact (hok k hk w b d e).1
  have z0 : (if 0 &&& 1 = 0 then (some ((0 : Int32), M)) else none) = some (0, M) := if_pos (by decide)
  unfold Mod_areTwins
  rw [if_pos (inb_nI hn (by decide)), if_pos (inb_nI hm (by decide)), nI_clamp (by omega), nI_clamp (by omega), h94 n hn, h94 m hm, ix_t, ix_t, if_pos e1, if_pos e3, e2, e4, z0]
  by_cases ch : hshF (rnN T n) (rnN T n).length = hshF (rnN T m) (rnN T m).length
  · rw [if_pos (lgc_eq.mpr ch)]
    cases c1 : (T.2 n).isSome with
    | false =>
      have hq := hT n hn
      rw [isNn c1] at hq
      rw [hq.1, if_pos (by decide)]
      refine ⟨M, ?_, f9x.rf⟩
      unfold twB
      rw [c1]; rfl
    | true =>
      rw [((hT n hn).at c1).1, if_neg (nI_pos (by have := okl n hn c1; omega))]
      cases c2 : (T.2 m).isSome with
      | false =>
        have hq := hT m hm
        rw [isNn c2] at hq
        rw [hq.1, if_neg (by decide)]
        refine ⟨M, ?_, f9x.rf⟩
        unfold twB
        rw [c1, c2]; rfl
      | true =>
        rw [((hT m hm).at c2).1, if_pos (ge0 (by have := okl m hm c2; omega))]
        obtain ⟨M1, q1, k1⟩ := runOf_ok (F := F) (a := 92) (hT n hn) (o1 n hn) ht hn (Or.inl rfl) hF
        have f1 := k1.f9 (Or.inl rfl)
        obtain ⟨M2, q2, k2⟩ := runOf_ok (F := F) (a := 93) (f1.mn (hT m hm)) (o1 m hm) ht hm (Or.inr rfl) hF
        have f2 := f1.tr (k2.f9 (Or.inr rfl))
        rw [rnO_N] at q1 k1 q2 k2
        have r1 := rn_ok hok hn
        have r2 := rn_ok hok hm
        have l1 := r1.1
        have l2 := r2.1
        have etw : twB T n m = decide (rnN T n = rnN T m) := by unfold twB; rw [c1, c2]; rfl
        rw [q1, Option.bind_some]
        dsimp only
        rw [q2, Option.bind_some, etw]
        dsimp only
        refine ⟨M2, ?_, f2⟩
        unfold Mod_areTwins_J84
        by_cases cl : (rnN T n).length = (rnN T m).length
        · rw [if_pos (by rw [cl])]
          have key := eq_loop (body := Mod_areTwins_B89 F (nI (rnN T n).length)) (v := rnN T n) (u := rnN T m) (F := F) (M := M2) cl l2 (fun i hi => by
            have m1 := isLt_32 (r1.2 _ (getD_mem (show i < (rnN T n).length by omega)))
            have m2 := isLt_32 (r2.2 _ (getD_mem hi))
            unfold Mod_areTwins_B89
            dsimp only [lt]
            rw [if_neg (nI_ge (by omega) (by omega)), if_neg (by decide), if_pos (inb_nI (by omega) (by decide)), nI_clamp (by omega), k2.1 92 (by decide), k1.2.2 i (by omega), k2.2.2 i hi, nI_1]
            by_cases c : (rnN T n).getD i 0 = (rnN T m).getD i 0
            · rw [if_pos c, if_pos (by rw [c])]
            · rw [if_neg c, if_neg (fun q => c ((nI_eq (by omega) (by omega)).mp q))]) (fun i => by
            unfold Mod_areTwins_B89
            dsimp only
            split <;> rfl) (by
            unfold Mod_areTwins_B89
            dsimp only
            rw [if_pos (nI_le (by omega) (by omega))]) hF
          rw [key, Option.bind_some]
          dsimp only
          rw [if_pos rfl, bI_and, if_pos rfl]
        · rw [if_neg (fun q => cl ((nI_eq (by omega) (by omega)).mp q)), decide_eq_false (fun q => cl (by rw [q]))]
          have key := loopN_seq (body := Mod_areTwins_B89 F (nI (rnN T n).length)) 0 (fun _ => (0, 0, M2)) (1, 0, 0, M2) F (fun i hi => by omega) (by
            unfold Mod_areTwins_B89
            dsimp only
            split <;> rfl) (fun q => by cases q) (by omega)
          have key : loopN (Mod_areTwins_B89 F (nI (rnN T n).length)) F (0, 0, M2) = _ := key
          rw [key]; rfl
  · rw [if_neg (fun q => ch (lgc_eq.mp q))]
    refine ⟨M, ?_, f9x.rf⟩
    unfold twB
    rw [decide_eq_false (fun q => ch (by rw [q])), Bool.and_false]
    rfl
/-- whom the reference takes as the twin of m among the first k -/
def frT (T : Tn) (m : Nat) (n : Nat) : Bool := decide (n ≠ m) && twB T n m
theorem twS_ok {F t m n : Nat} {x2 x3 x4 x5 : Int32} {T : Tn} {M : zM} (hT : ∀ n, n < 1000 → MN (1000 * t + n) (T.2 n) M) (hok : ∀ n, n < 1000 → ∀ w b d, T.2 n = some (w, b, d) → okW w) (h94 : ∀ n, n < 1000 → M.2 94 n = hshF (rnN T n) (rnN T n).length) (ht : t < 3) (hm : m < 1000) (hn : n < 1000) (hF : 3000 < F) : ∃ M1, Mod_twins_B57 F (nI t) x2 x5 (nI m) (x3, x4, 0, nI n, M) = (if frT T m n = true then (if n < m ∧ ¬ 0 ≤ x4 then some (0, nI n, nI m, 1, nI (n + 1), M1) else some (0, x3, x4, 1, nI (n + 1), M1)) else some (0, x3, x4, 0, nI (n + 1), M1)) ∧ f9x M M1 := by
  obtain ⟨M1, e1, f1⟩ := areTw_ok (F := F) hT hok h94 ht hn hm hF
  have j93 : ∀ M1, Mod_twins_J93 F (nI t) x2 x3 x4 x5 (nI m) (nI n) M1 = some (0, x3, x4, 0, nI (n + 1), M1) := fun M1 => by
    unfold Mod_twins_J93 Mod_twins_J94
    rw [if_pos rfl]
    unfold Mod_twins_J117 Mod_twins_J118
    rw [if_pos rfl]
    unfold Mod_twins_J131
    dsimp only [lt]
    rw [if_pos rfl, nI_1]
  have j117 : ∀ M1, Mod_twins_J117 F (nI t) x2 x3 x4 x5 (nI m) 1 (nI n) M1 = some (0, x3, x4, 1, nI (n + 1), M1) := fun M1 => by
    unfold Mod_twins_J117 Mod_twins_J118
    rw [if_pos rfl]
    unfold Mod_twins_J131
    dsimp only [lt]
    rw [if_pos rfl, nI_1]
  unfold Mod_twins_B57
  dsimp only [lt]
  rw [if_neg (show ¬ (1000 : Int32) ≤ nI n from nI_ge (b := 1000) hn (by decide)), if_pos rfl]
  by_cases c : n = m
  · refine ⟨M, ?_, f9x.rf⟩
    rw [if_pos (by rw [c]), j93, if_neg (show ¬ frT T m n = true by unfold frT; rw [decide_eq_false (fun q => q c)]; simp)]
  · rw [if_neg (fun q => c ((nI_eq (by omega) (by omega)).mp q)), e1, Option.bind_some]
    dsimp only
    have ef : frT T m n = twB T n m := by unfold frT; rw [decide_eq_true c]; rfl
    rw [ef]
    cases twB T n m with
    | false =>
      refine ⟨M1, ?_, f1⟩
      rw [if_pos (by decide), j93, if_neg (by decide)]
    | true =>
      refine ⟨M1, ?_, f1⟩
      rw [if_neg (by decide), if_pos rfl]
      unfold Mod_twins_J94
      rw [if_neg (by decide)]
      by_cases d : n < m
      · rw [if_neg (nI_ge d (by omega))]
        by_cases e : 0 ≤ x4
        · rw [if_pos e, j117, if_neg (fun q => q.2 e)]
        · rw [if_neg e, if_pos ⟨d, e⟩]
          unfold Mod_twins_J118
          rw [if_neg (by decide)]
          unfold Mod_twins_J131
          dsimp only [lt]
          rw [if_neg (by decide), nI_1]
      · rw [if_pos (nI_le (by omega) (by omega)), j117, if_neg (fun q => d q.1)]

def zl (k : Nat) : Nat := (zLines.getD k 0).toNatClampNeg
theorem zl_ok : ∀ k, k < 24 → inb (zLines.getD k 0) 9 = true ∧ (zLines.getD k 0).toNatClampNeg < 9 := by decide
def lsV (T : Tn) (u : Nat → Nat) (j : Nat) : Int32 := lzV T (u (zl (3 * j))) + lzV T (u (zl (3 * j + 1))) + lzV T (u (zl (3 * j + 2)))
theorem lineSum_ok {F a j : Nat} {T : Tn} {u : Nat → Nat} {M : zM} (h : XT a T M) (hu : ∀ i, i < 9 → u i < 1000 ∧ M.1 62 i = nI (u i)) (hj : j < 8) (hF : 3000 < F) : Squ_lineSum F a (nI (3 * j)) M = some (lsV T u j, M) := by
  have e3 : nI (3 * j) + 3 = nI (3 * j + 3) := by rw [show (3 : Int32) = nI 3 from rfl, nI_add]
  have key := loopN_seq (body := Squ_lineSum_B5 F a (nI (3 * j))) 3 (fun i => (accI (fun k => lzV T (u (zl k))) (3 * j) i, nI (3 * j + i), M)) (1, accI (fun k => lzV T (u (zl k))) (3 * j) 3, 0, M) F (fun i hi => by
    have hz := zl_ok (3 * j + i) (by omega)
    unfold Squ_lineSum_B5
    dsimp only [lt]
    rw [e3, if_neg (nI_ge (by omega) (by omega)), if_neg (show ¬ (24 : Int32) ≤ nI (3 * j + i) from nI_ge (b := 24) (by omega) (by decide)), if_pos (inb_nI (by omega) (by decide)), nI_clamp (by omega), if_pos hz.1, (hu _ hz.2).2, (get5 (F := F) h (hu _ hz.2).1).2.1, Option.bind_some]
    dsimp only
    rw [nI_1]
    rfl) (by
    unfold Squ_lineSum_B5
    dsimp only
    rw [e3, if_pos (nI_le (by omega) (by omega))]) (fun q => by cases q) (by omega)
  unfold Squ_lineSum
  have key : loopN (Squ_lineSum_B5 F a (nI (3 * j))) F (0, nI (3 * j), M) = _ := key
  rw [key, Option.bind_some]
  dsimp only
  rw [if_pos rfl]
  show some (0 + lzV T (u (zl (3 * j + 0))) + lzV T (u (zl (3 * j + 1))) + lzV T (u (zl (3 * j + 2))), M) = _
  rw [Int32.zero_add]
  rfl
def nmd (T : Tn) (u : Nat → Nat) : Bool := allN (fun i => (T.2 (u i)).isSome) 9
def hld (T : Tn) (u : Nat → Nat) : Bool := nmd T u && allN (fun j => decide (lsV T u (j + 1) = lsV T u 0)) 7
theorem holdsIn_ok {F a : Nat} {T : Tn} {u : Nat → Nat} {M : zM} (h : XT a T M) (hu : ∀ i, i < 9 → u i < 1000 ∧ M.1 62 i = nI (u i)) (hF : 3000 < F) : Squ_holdsIn F a M = some (bI (hld T u), M) := by
  have k1 := all_loopX (body := Squ_holdsIn_B2 F a) (p := fun i => (T.2 (u i)).isSome) (ix := nI) (N := 9) (F := F) (M := M) (by decide) (fun i hi => by
    unfold Squ_holdsIn_B2
    dsimp only [lt]
    rw [if_neg (show ¬ (9 : Int32) ≤ nI i from nI_ge (b := 9) hi (by decide)), if_pos (inb_nI hi (by decide)), nI_clamp (by omega), (hu i hi).2, has_ok h (hu i hi).1, Option.bind_some, nI_1]
    dsimp only
    cases (T.2 (u i)).isSome <;> rfl) (by
    unfold Squ_holdsIn_B2
    exact if_pos (by decide)) hF
  have k1 : loopN (Squ_holdsIn_B2 F a) F (0, M) = _ := k1
  have k2 := all_loopX (body := Squ_holdsIn_B38 F a (lsV T u 0)) (p := fun j => decide (lsV T u (j + 1) = lsV T u 0)) (ix := fun j => nI (3 * (j + 1))) (N := 7) (F := F) (M := M) (by decide) (fun j hj => by
    unfold Squ_holdsIn_B38
    dsimp only [lt]
    rw [if_neg (show ¬ (24 : Int32) ≤ nI (3 * (j + 1)) from nI_ge (b := 24) (by omega) (by decide)), lineSum_ok h hu (by omega) hF, Option.bind_some]
    dsimp only
    rw [show (3 : Int32) = nI 3 from rfl, nI_add, show 3 * (j + 1) + 3 = 3 * (j + 1 + 1) by omega]
    by_cases c : lsV T u (j + 1) = lsV T u 0
    · rw [if_pos c, if_pos (decide_eq_true c)]
    · rw [if_neg c, if_neg (fun q => c (of_decide_eq_true q))]) (by
    unfold Squ_holdsIn_B38
    exact if_pos (by decide)) hF
  have k2 : loopN (Squ_holdsIn_B38 F a (lsV T u 0)) F (3, M) = _ := k2
  have l0 : Squ_lineSum F a 0 M = some (lsV T u 0, M) := lineSum_ok (j := 0) h hu (by decide) hF
  unfold Squ_holdsIn hld
  rw [k1, Option.bind_some]
  unfold nmd
  cases allN (fun i => (T.2 (u i)).isSome) 9 with
  | false => rfl
  | true =>
    dsimp only
    rw [if_pos rfl, if_neg (by decide), if_pos rfl, l0, Option.bind_some]
    dsimp only
    rw [k2, Option.bind_some]
    cases allN (fun j => decide (lsV T u (j + 1) = lsV T u 0)) 7 <;> rfl
theorem sumOf_ok {F t a b c : Nat} {S : Sp} {u : Nat → Nat} {M : zM} (h0 : okS S) (h : RM S M) (ht : t < 3) (hu : ∀ i, i < 9 → u i < 1000 ∧ M.1 98 i = nI (u i)) (ha : a < 9) (hb : b < 9) (hc : c < 9) : Mod_sumOf F (nI t) (nI a) (nI b) (nI c) M = some (lzV (S.2.2.1 t) (u a) + lzV (S.2.2.1 t) (u b) + lzV (S.2.2.1 t) (u c), M) := by
  have hlet : ∀ i, i < 9 → Mod_lettersOf F (nI t) (nI (u i)) M = some (lzV (S.2.2.1 t) (u i), M) := fun i hi => Mod_lettersOf_ok ((h.2.2.2.1 t ht).2 _ (hu i hi).1) (fun z hz => ((h0.2.2.1 t ht).2 _ (hu i hi).1 z.1 z.2.1 z.2.2 hz).1.1) ht (hu i hi).1
  unfold Mod_sumOf
  rw [if_pos (inb_nI ha (by decide)), nI_clamp (by omega), (hu a ha).2, hlet a ha, Option.bind_some]
  dsimp only
  rw [if_pos (inb_nI hb (by decide)), nI_clamp (by omega), (hu b hb).2, hlet b hb, Option.bind_some]
  dsimp only
  rw [if_pos (inb_nI hc (by decide)), nI_clamp (by omega), (hu c hc).2, hlet c hc, Option.bind_some]
theorem isTwice_ok {F t : Nat} {S : Sp} {u : Nat → Nat} {M : zM} (h0 : okS S) (h : RM S M) (ht : t < 3) (hu : ∀ i, i < 9 → u i < 1000 ∧ M.1 98 i = nI (u i)) (hF : 3000 < F) : Mod_isTwice F (nI t) M = some (bI (hld (S.2.2.1 t) u), M) := by
  have k1 := all_loopM (body := Mod_isTwice_B4 F (nI t)) (p := fun i => ((S.2.2.1 t).2 (u i)).isSome) (b := true) (a := 0) (N := 9) (F := F) (M := M) (by decide) (by decide) (fun i _ hi => by
    have hui := hu i hi
    have e1 : inb (nI (1000 * t + u i)) 3000 = true := inb_nI (by omega) (by decide)
    have e2 : (nI (1000 * t + u i)).toNatClampNeg = 1000 * t + u i := nI_clamp (by omega)
    have hmn := (h.2.2.2.1 t ht).2 _ hui.1
    unfold Mod_isTwice_B4
    dsimp only [lt]
    rw [if_neg (show ¬ (9 : Int32) ≤ nI i from nI_ge (b := 9) hi (by decide)), if_neg (by decide), if_pos (inb_nI hi (by decide)), nI_clamp (n := i) (by omega), hui.2, ix_t, if_pos e1, e2, nI_1]
    unfold MN at hmn
    cases e : (S.2.2.1 t).2 (u i) with
    | none => rw [e] at hmn; rw [hmn.1, if_pos (by decide)]; rfl
    | some q =>
      have := ((h0.2.2.1 t ht).2 _ hui.1 q.1 q.2.1 q.2.2 e).1.1
      rw [e] at hmn
      rw [hmn.1, if_neg (nI_pos (by omega))]; rfl) (fun i _ hi => by
    unfold Mod_isTwice_B4
    dsimp only [lt]
    rw [if_neg (show ¬ (9 : Int32) ≤ nI i from nI_ge (b := 9) hi (by decide)), if_pos rfl, nI_1]) (fun x => by
    unfold Mod_isTwice_B4
    exact if_pos (by decide)) hF
  have k1 : loopN (Mod_isTwice_B4 F (nI t)) F (1, 0, M) = some (1, bI (true && allN (fun j => ((S.2.2.1 t).2 (u (0 + j))).isSome) 9), 0, M) := k1
  have sm : ∀ a b c, a < 9 → b < 9 → c < 9 → Mod_sumOf F (nI t) (nI a) (nI b) (nI c) M = some (lzV (S.2.2.1 t) (u a) + lzV (S.2.2.1 t) (u b) + lzV (S.2.2.1 t) (u c), M) := fun a b c ha hb hc => sumOf_ok h0 h ht hu ha hb hc
  have s0 : Mod_sumOf F (nI t) 0 1 2 M = some (lsV (S.2.2.1 t) u 0, M) := sm 0 1 2 (by decide) (by decide) (by decide)
  have s6 : Mod_sumOf F (nI t) 0 4 8 M = some (lsV (S.2.2.1 t) u 6, M) := sm 0 4 8 (by decide) (by decide) (by decide)
  have s7 : Mod_sumOf F (nI t) 2 4 6 M = some (lsV (S.2.2.1 t) u 7, M) := sm 2 4 6 (by decide) (by decide) (by decide)
  have rc : ∀ i, i < 3 → Mod_sumOf F (nI t) (3 * nI i) ((3 * nI i) + 1) ((3 * nI i) + 2) M = some (lsV (S.2.2.1 t) u i, M) ∧ Mod_sumOf F (nI t) (nI i) (nI i + 3) (nI i + 6) M = some (lsV (S.2.2.1 t) u (3 + i), M) := fun i hi => by
    rcases (show i = 0 ∨ i = 1 ∨ i = 2 by omega) with rfl | rfl | rfl
    · exact ⟨sm 0 1 2 (by decide) (by decide) (by decide), sm 0 3 6 (by decide) (by decide) (by decide)⟩
    · exact ⟨sm 3 4 5 (by decide) (by decide) (by decide), sm 1 4 7 (by decide) (by decide) (by decide)⟩
    · exact ⟨sm 6 7 8 (by decide) (by decide) (by decide), sm 2 5 8 (by decide) (by decide) (by decide)⟩
  have k2 : ∀ b : Bool, loopN (Mod_isTwice_B58 F (nI t) (lsV (S.2.2.1 t) u 0)) F (bI b, 0, M) = some (1, bI (b && allN (fun j => decide (lsV (S.2.2.1 t) u (0 + j) = lsV (S.2.2.1 t) u 0) && decide (lsV (S.2.2.1 t) u (3 + (0 + j)) = lsV (S.2.2.1 t) u 0)) 3), 0, M) := fun b =>
    all_loopM (body := Mod_isTwice_B58 F (nI t) (lsV (S.2.2.1 t) u 0)) (p := fun i => decide (lsV (S.2.2.1 t) u i = lsV (S.2.2.1 t) u 0) && decide (lsV (S.2.2.1 t) u (3 + i) = lsV (S.2.2.1 t) u 0)) (b := b) (a := 0) (N := 3) (F := F) (M := M) (by decide) (by decide) (fun i _ hi => by
      unfold Mod_isTwice_B58
      dsimp only [lt]
      rw [if_neg (show ¬ (3 : Int32) ≤ nI i from nI_ge (b := 3) hi (by decide)), if_neg (by decide), (rc i hi).1, Option.bind_some, nI_1]
      dsimp only
      by_cases c : lsV (S.2.2.1 t) u i = lsV (S.2.2.1 t) u 0
      · rw [if_pos c, (rc i hi).2, Option.bind_some]
        dsimp only
        by_cases d : lsV (S.2.2.1 t) u (3 + i) = lsV (S.2.2.1 t) u 0
        · rw [if_pos d, if_pos (by simp [c, d])]
        · rw [if_neg d, if_neg (by simp [d])]
      · rw [if_neg c, if_neg (by simp [c])]) (fun i _ hi => by
      unfold Mod_isTwice_B58
      dsimp only [lt]
      rw [if_neg (show ¬ (3 : Int32) ≤ nI i from nI_ge (b := 3) hi (by decide)), if_pos rfl, nI_1]) (fun x => by
      unfold Mod_isTwice_B58
      exact if_pos (by decide)) hF
  unfold Mod_isTwice
  rw [k1, Option.bind_some]
  dsimp only
  rw [if_pos rfl, s0, Option.bind_some]
  dsimp only
  rw [k2, Option.bind_some]
  dsimp only
  rw [if_pos rfl, s6, Option.bind_some]
  dsimp only
  rw [s7, Option.bind_some]
  dsimp only
  have en : (true && allN (fun j => ((S.2.2.1 t).2 (u (0 + j))).isSome) 9) = nmd (S.2.2.1 t) u := by
    unfold nmd
    simp only [Nat.zero_add, Bool.true_and]
  rw [en]
  have eh : hld (S.2.2.1 t) u = (nmd (S.2.2.1 t) u && allN (fun j => decide (lsV (S.2.2.1 t) u (0 + j) = lsV (S.2.2.1 t) u 0) && decide (lsV (S.2.2.1 t) u (3 + (0 + j)) = lsV (S.2.2.1 t) u 0)) 3 && decide (lsV (S.2.2.1 t) u 6 = lsV (S.2.2.1 t) u 0) && decide (lsV (S.2.2.1 t) u 7 = lsV (S.2.2.1 t) u 0)) := by
    unfold hld
    simp only [allN, Nat.zero_add, Nat.reduceAdd]
    generalize decide (lsV (S.2.2.1 t) u 1 = lsV (S.2.2.1 t) u 0) = b1
    generalize decide (lsV (S.2.2.1 t) u 2 = lsV (S.2.2.1 t) u 0) = b2
    generalize decide (lsV (S.2.2.1 t) u 3 = lsV (S.2.2.1 t) u 0) = b3
    generalize decide (lsV (S.2.2.1 t) u 4 = lsV (S.2.2.1 t) u 0) = b4
    generalize decide (lsV (S.2.2.1 t) u 5 = lsV (S.2.2.1 t) u 0) = b5
    generalize decide (lsV (S.2.2.1 t) u 6 = lsV (S.2.2.1 t) u 0) = b6
    generalize decide (lsV (S.2.2.1 t) u 7 = lsV (S.2.2.1 t) u 0) = b7
    generalize nmd (S.2.2.1 t) u = b8
    revert b1 b2 b3 b4 b5 b6 b7 b8
    decide
  rw [eh]
  cases nmd (S.2.2.1 t) u && allN (fun j => decide (lsV (S.2.2.1 t) u (0 + j) = lsV (S.2.2.1 t) u 0) && decide (lsV (S.2.2.1 t) u (3 + (0 + j)) = lsV (S.2.2.1 t) u 0)) 3 with
  | false => rfl
  | true =>
    rw [if_neg (by decide)]
    by_cases c : lsV (S.2.2.1 t) u 6 = lsV (S.2.2.1 t) u 0
    · rw [if_pos c, decide_eq_true c]
      by_cases d : lsV (S.2.2.1 t) u 7 = lsV (S.2.2.1 t) u 0
      · rw [if_pos d, decide_eq_true d]; rfl
      · rw [if_neg d, decide_eq_false d]; rfl
    · rw [if_neg c, decide_eq_false c]; rfl

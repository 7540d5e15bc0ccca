/-! squares -/
def unl1 (v : Nat → Int32) : Bool := allN (fun i => allN (fun j => decide (v i ≠ v j)) i) 9
def unl2 (v : Nat → Int32) : Bool := allN (fun i => allN (fun j => decide (v i ≠ v (i + 1 + j))) (9 - (i + 1))) 9
theorem unl_eq (v : Nat → Int32) : unl2 v = unl1 v := by
  rw [Bool.eq_iff_iff]
  unfold unl1 unl2
  simp only [allN_iff, decide_eq_true_iff]
  constructor
  · intro h i hi j hj q
    exact h j (by omega) (i - (j + 1)) (by omega) (by rw [show j + 1 + (i - (j + 1)) = i by omega]; exact q.symm)
  · intro h i hi j hj q
    exact h (i + 1 + j) (by omega) i (by omega) q.symm
theorem isUnlike_ok {F : Nat} {v : Nat → Int32} {M : zM} (hv : ∀ i, i < 9 → M.1 62 i = v i) (hF : 3000 < F) : Squ_isUnlike F M = some (bI (unl1 v), M) := by
  have k := all_loopX (body := Squ_isUnlike_B2 F) (p := fun i => allN (fun j => decide (v i ≠ v j)) i) (ix := nI) (N := 9) (F := F) (M := M) (by decide) (fun i hi => by
    have k1 := all_loopX (body := Squ_isUnlike_B10 F (nI i)) (p := fun j => decide (v i ≠ v j)) (ix := nI) (N := i) (F := F) (M := M) (by omega) (fun j hj => by
      unfold Squ_isUnlike_B10
      dsimp only [lt]
      rw [if_neg (nI_ge hj (by omega)), if_pos (inb_nI hi (by decide)), if_pos (inb_nI (show j < 9 by omega) (by decide)), nI_clamp (n := i) (by omega), nI_clamp (n := j) (by omega), hv i hi, hv j (by omega), nI_1]
      by_cases c : v i = v j
      · rw [if_pos c, if_neg (by simp [c])]
      · rw [if_neg c, if_pos (by simp [c])]) (by
      unfold Squ_isUnlike_B10
      exact if_pos (nI_le (Nat.le_refl _) (by omega))) hF
    have k1 : loopN (Squ_isUnlike_B10 F (nI i)) F (0, M) = _ := k1
    unfold Squ_isUnlike_B2
    dsimp only [lt]
    rw [if_neg (show ¬ (9 : Int32) ≤ nI i from nI_ge (b := 9) hi (by decide)), k1, Option.bind_some, nI_1]
    cases allN (fun j => decide (v i ≠ v j)) i <;> rfl) (by
    unfold Squ_isUnlike_B2
    exact if_pos (by decide)) hF
  have k : loopN (Squ_isUnlike_B2 F) F (0, M) = some (if unl1 v = true then 2 else 1, 0, M) := k
  unfold Squ_isUnlike
  rw [k, Option.bind_some]
  cases unl1 v <;> rfl
theorem areUnlike_ok {F : Nat} {v : Nat → Int32} {M : zM} (hv : ∀ i, i < 9 → M.1 98 i = v i) (hF : 3000 < F) : Mod_areUnlike F M = some (bI (unl1 v), M) := by
  have k0 : ∀ i, i < 9 → ∀ b : Bool, loopN (Mod_areUnlike_B14 F (nI i)) F (bI b, nI (i + 1), M) = some (1, bI (b && allN (fun j => decide (v i ≠ v (i + 1 + j))) (9 - (i + 1))), 0, M) := fun i hi b =>
    all_loopM (body := Mod_areUnlike_B14 F (nI i)) (p := fun j => decide (v i ≠ v j)) (b := b) (a := i + 1) (N := 9) (F := F) (M := M) (by decide) (by omega) (fun j _ hj => by
      unfold Mod_areUnlike_B14
      dsimp only [lt]
      rw [if_neg (show ¬ (9 : Int32) ≤ nI j from nI_ge (b := 9) hj (by decide)), if_neg (by decide), if_pos (inb_nI hi (by decide)), if_pos (inb_nI hj (by decide)), nI_clamp (n := i) (by omega), nI_clamp (n := j) (by omega), hv i hi, hv j hj, nI_1]
      by_cases c : v i = v j
      · rw [if_pos c, if_neg (by simp [c])]
      · rw [if_neg c, if_pos (by simp [c])]) (fun j _ hj => by
      unfold Mod_areUnlike_B14
      dsimp only [lt]
      rw [if_neg (show ¬ (9 : Int32) ≤ nI j from nI_ge (b := 9) hj (by decide)), if_pos rfl, nI_1]) (fun x => by
      unfold Mod_areUnlike_B14
      exact if_pos (by decide)) hF
  have st : ∀ i, i < 9 → ∀ b : Bool, Mod_areUnlike_B4 F (bI b, nI i, M) = some (0, bI (b && allN (fun j => decide (v i ≠ v (i + 1 + j))) (9 - (i + 1))), nI (i + 1), M) := fun i hi b => by
    unfold Mod_areUnlike_B4
    dsimp only [lt]
    rw [if_neg (show ¬ (9 : Int32) ≤ nI i from nI_ge (b := 9) hi (by decide)), nI_1, k0 i hi b, Option.bind_some]
    rfl
  have k := all_loopM (body := Mod_areUnlike_B4 F) (p := fun i => allN (fun j => decide (v i ≠ v (i + 1 + j))) (9 - (i + 1))) (b := true) (a := 0) (N := 9) (F := F) (M := M) (by decide) (by decide) (fun i _ hi => by
    have := st i hi true
    rw [bI_t] at this
    rw [this]
    cases allN (fun j => decide (v i ≠ v (i + 1 + j))) (9 - (i + 1)) <;> rfl) (fun i _ hi => by
    have := st i hi false
    rw [bI_f] at this
    rw [this]
    rfl) (fun x => by
    unfold Mod_areUnlike_B4
    exact if_pos (by decide)) hF
  simp only [Nat.zero_add, Bool.true_and] at k
  have k : loopN (Mod_areUnlike_B4 F) F (1, 0, M) = some (1, bI (unl2 v), 0, M) := k
  unfold Mod_areUnlike
  rw [k, Option.bind_some, unl_eq]
  dsimp only
  rw [if_pos rfl, bI_and, if_pos rfl]
def frs (p : Nat → Bool) : Nat → Nat → Option Nat
  | _, 0 => none
  | a, n + 1 => if p a = true then some a else frs p (a + 1) n
theorem frs_loop {body : Int32 × zM → Option (Nat × (Int32 × zM))} {p : Nat → Bool} {P : zM → Prop} {F : Nat} {M : zM} (h1 : ∀ i M, 1 ≤ i → i < 61 → P M → ∃ M1, P M1 ∧ body (nI i, M) = if p i = true then some (1, nI i, M1) else some (0, nI (i + 1), M1)) (h2 : ∀ M, P M → body (nI 61, M) = some (2, 0, M)) (hF : 3000 < F) (hM : P M) : ∃ M1, P M1 ∧ loopN body F (1, M) = some (match frs p 1 60 with | some e => (1, nI e, M1) | none => (2, 0, M1)) := by
  have key := loopN_inv (body := body) (I := fun i s => ∃ M, P M ∧ s = (nI (1 + i), M) ∧ frs p 1 60 = frs p (1 + i) (60 - i)) (Qx := fun q => ∃ M1, P M1 ∧ q = (match frs p 1 60 with | some e => (1, nI e, M1) | none => (2, 0, M1))) (N := 60) (F := F) (s := (1, M)) (fun i s hi hs => by
    obtain ⟨M, hM, rfl, hf⟩ := hs
    obtain ⟨M1, hM1, e⟩ := h1 (1 + i) M (by omega) (by omega) hM
    rw [e]
    rw [show 60 - i = (60 - (i + 1)) + 1 by omega] at hf
    have hf : frs p 1 60 = if p (1 + i) = true then some (1 + i) else frs p (1 + i + 1) (60 - (i + 1)) := hf
    by_cases c : p (1 + i) = true
    · rw [if_pos c] at hf ⊢
      exact Or.inr ⟨_, rfl, (fun q => by cases q), M1, hM1, by rw [hf]⟩
    · rw [if_neg c] at hf ⊢
      exact Or.inl ⟨_, rfl, M1, hM1, rfl, hf⟩) (fun s hs => by
    obtain ⟨M, hM, rfl, hf⟩ := hs
    have hf : frs p 1 60 = none := hf
    exact ⟨_, h2 M hM, (fun q => by cases q), M, hM, by rw [hf]⟩) (by omega) ⟨M, hM, rfl, rfl⟩
  obtain ⟨q, e, M1, hM1, rfl⟩ := key
  exact ⟨M1, hM1, e⟩
theorem frs_some {p : Nat → Bool} : ∀ n a d, frs p a n = some d → p d = true := by
  intro n
  induction n with
  | zero => intro a d h; cases h
  | succ n ih =>
    intro a d h
    have h : (if p a = true then some a else frs p (a + 1) n) = some d := h
    by_cases c : p a = true
    · rw [if_pos c] at h; cases h; exact c
    · rw [if_neg c] at h; exact ih _ _ h
theorem frs_loop2 {body : Int32 × Int32 × zM → Option (Nat × (Int32 × Int32 × zM))} {g : Nat → Nat → Bool} {P : zM → Prop} {F : Nat} {M : zM} (h1 : ∀ i M, 1 ≤ i → i < 61 → P M → ∃ M1, P M1 ∧ body (nI i, 0, M) = match frs (g i) 1 60 with | some e => some (1, nI i, nI e, M1) | none => some (0, nI (i + 1), 0, M1)) (h2 : ∀ M, P M → body (nI 61, 0, M) = some (2, 0, 0, M)) (hF : 3000 < F) (hM : P M) : ∃ M1, P M1 ∧ loopN body F (1, 0, M) = some (match frs (fun d => (frs (g d) 1 60).isSome) 1 60 with | some d => (1, nI d, nI ((frs (g d) 1 60).getD 0), M1) | none => (2, 0, 0, M1)) := by
  have key := loopN_inv (body := body) (I := fun i s => ∃ M, P M ∧ s = (nI (1 + i), 0, M) ∧ frs (fun d => (frs (g d) 1 60).isSome) 1 60 = frs (fun d => (frs (g d) 1 60).isSome) (1 + i) (60 - i)) (Qx := fun q => ∃ M1, P M1 ∧ q = (match frs (fun d => (frs (g d) 1 60).isSome) 1 60 with | some d => (1, nI d, nI ((frs (g d) 1 60).getD 0), M1) | none => (2, 0, 0, M1))) (N := 60) (F := F) (s := (1, 0, M)) (fun i s hi hs => by
    obtain ⟨M, hM, rfl, hf⟩ := hs
    obtain ⟨M1, hM1, e⟩ := h1 (1 + i) M (by omega) (by omega) hM
    rw [e]
    rw [show 60 - i = (60 - (i + 1)) + 1 by omega] at hf
    have hf : frs (fun d => (frs (g d) 1 60).isSome) 1 60 = if (frs (g (1 + i)) 1 60).isSome = true then some (1 + i) else frs (fun d => (frs (g d) 1 60).isSome) (1 + i + 1) (60 - (i + 1)) := hf
    cases c : frs (g (1 + i)) 1 60 with
    | some e =>
      rw [c, if_pos (by simp)] at hf
      exact Or.inr ⟨_, rfl, (fun q => by cases q), M1, hM1, by rw [hf]; dsimp only; rw [c]; rfl⟩
    | none =>
      rw [c, if_neg (by simp)] at hf
      exact Or.inl ⟨_, rfl, M1, hM1, rfl, hf⟩) (fun s hs => by
    obtain ⟨M, hM, rfl, hf⟩ := hs
    have hf : frs (fun d => (frs (g d) 1 60).isSome) 1 60 = none := hf
    exact ⟨_, h2 M hM, (fun q => by cases q), M, hM, by rw [hf]⟩) (by omega) ⟨M, hM, rfl, rfl⟩
  obtain ⟨q, e, M1, hM1, rfl⟩ := key
  exact ⟨M1, hM1, e⟩
def sgG (T : Tn) (y : Int32) (d e : Nat) : Bool := sqN y (nI d) (nI e) && hld T (sqU y (nI d) (nI e)) && unl1 (sqV y (nI d) (nI e))
def sqsS (S : Sp) (t : Nat) (y : Int32) : Int32 := match frs (fun d => (frs (sgG (S.2.2.1 t) y d) 1 60).isSome) 1 60 with
  | some d => nI d * 100 + nI ((frs (sgG (S.2.2.1 t) y d) 1 60).getD 0)
  | none => -1
theorem ok_squares {F : Nat} (hF : 3000 < F) (x y : Int32) : Good (NW_squares F x y) (Mod_squares F x y) := by
  cases h1 : inb x 3 with
  | false => exact mkGood0 (fun _ => -1001) (fun S M h => by simp [NW_squares, NW_isTongue_ok, h1, bI]) (fun S M h0 h => by simp [Mod_squares, Mod_isTongue_ok, h1, bI])
  | true =>
    cases h2 : inb y 1000 with
    | false => exact mkGood0 (fun _ => -1001) (fun S M h => by simp [NW_squares, NW_isTongue_ok, NW_isNumber_ok, h1, h2, bI]) (fun S M h0 h => by simp [Mod_squares, Mod_isTongue_ok, Mod_isNumber_ok, h1, h2, bI])
    | true =>
      obtain ⟨t, ht, rfl⟩ := inb_of h1 (by decide)
      refine mkGood (fun S => (sqsS S t y, S)) (fun S M h => ?_) (fun S M h0 h => ?_)
      · have inn : ∀ d M1, RX S M1 ∧ sameHi M M1 → ∃ M2, (RX S M2 ∧ sameHi M M2) ∧ loopN (NW_squares_B29 F (nI t) y (nI d)) F (1, M1) = some (match frs (sgG (S.2.2.1 t) y d) 1 60 with | some e => (1, nI e, M2) | none => (2, 0, M2)) := fun d M1 hP =>
          frs_loop (body := NW_squares_B29 F (nI t) y (nI d)) (p := sgG (S.2.2.1 t) y d) (P := fun M2 => RX S M2 ∧ sameHi M M2) (F := F) (fun e M2 _ he hP => by
            obtain ⟨w1, w2⟩ := wrX (v := sqV y (nI d) (nI e)) hP.1
            refine ⟨_, ⟨w1, hP.2.tr w2⟩, ?_⟩
            unfold NW_squares_B29 sgG
            dsimp only [lt]
            rw [if_neg (show ¬ (60 : Int32) < nI e from nI_nlt (a := 60) (by omega) (by decide)), lay_ok hF, Option.bind_some, nI_1]
            dsimp only
            show (if bI (sqN y (nI d) (nI e)) = 0 then _ else _) = _
            cases eN : sqN y (nI d) (nI e) with
            | false => rfl
            | true =>
              rw [if_neg (by decide), if_pos h1, tgA_n t ht, holdsIn_ok (w1.2.2.2.2.2.1 t ht) (fun i hi => ⟨(sqU_ok eN i hi).1, (wr9_v 9 i hi).trans (sqU_ok eN i hi).2⟩) hF, Option.bind_some]
              dsimp only
              rw [isUnlike_ok (fun i hi => wr9_v 9 i hi) hF, Option.bind_some]
              cases hld (S.2.2.1 t) (sqU y (nI d) (nI e)) <;> cases unl1 (sqV y (nI d) (nI e)) <;> rfl) (fun M2 hP => by
            unfold NW_squares_B29
            exact if_pos (by decide)) hF hP
        obtain ⟨M1, hP, e⟩ := frs_loop2 (body := NW_squares_B20 F (nI t) y) (g := sgG (S.2.2.1 t) y) (P := fun M2 => RX S M2 ∧ sameHi M M2) (F := F) (M := M) (fun d M1 _ hd hP => by
          obtain ⟨M2, hP2, e⟩ := inn d M1 hP
          refine ⟨M2, hP2, ?_⟩
          unfold NW_squares_B20
          dsimp only [lt]
          rw [if_neg (show ¬ (60 : Int32) < nI d from nI_nlt (a := 60) (by omega) (by decide)), e, Option.bind_some, nI_1]
          cases frs (sgG (S.2.2.1 t) y d) 1 60 <;> rfl) (fun M2 hP => by
          unfold NW_squares_B20
          exact if_pos (by decide)) hF ⟨h, sameHi.rf⟩
        refine ⟨M1, ?_, hP.1, hP.2⟩
        unfold NW_squares sqsS
        rw [NW_isTongue_ok, h1, Option.bind_some]
        dsimp only
        rw [if_neg (by decide), NW_isNumber_ok, h2, Option.bind_some]
        dsimp only
        rw [if_neg (by decide), e, Option.bind_some]
        cases frs (fun d => (frs (sgG (S.2.2.1 t) y d) 1 60).isSome) 1 60 <;> rfl
      · have inn : ∀ d M1, RM S M1 ∧ sameLo M M1 → ∃ M2, (RM S M2 ∧ sameLo M M2) ∧ loopN (Mod_squares_B29 F (nI t) y (nI d)) F (1, M1) = some (match frs (sgG (S.2.2.1 t) y d) 1 60 with | some e => (1, nI e, M2) | none => (2, 0, M2)) := fun d M1 hP =>
          frs_loop (body := Mod_squares_B29 F (nI t) y (nI d)) (p := sgG (S.2.2.1 t) y d) (P := fun M2 => RM S M2 ∧ sameLo M M2) (F := F) (fun e M2 _ he hP => by
            obtain ⟨w1, w2⟩ := wrM (v := sqV y (nI d) (nI e)) hP.1
            refine ⟨_, ⟨w1, hP.2.tr w2⟩, ?_⟩
            unfold Mod_squares_B29 sgG
            dsimp only [lt]
            rw [if_neg (show ¬ (60 : Int32) < nI e from nI_nlt (a := 60) (by omega) (by decide)), nine_ok hF, Option.bind_some, nI_1]
            dsimp only
            show (if bI (sqN y (nI d) (nI e)) = 0 then _ else _) = _
            cases eN : sqN y (nI d) (nI e) with
            | false => rfl
            | true =>
              rw [if_neg (by decide), areUnlike_ok (fun i hi => wr9_v 9 i hi) hF, Option.bind_some]
              dsimp only
              rw [isTwice_ok h0 w1 ht (fun i hi => ⟨(sqU_ok eN i hi).1, (wr9_v 9 i hi).trans (sqU_ok eN i hi).2⟩) hF, Option.bind_some]
              cases hld (S.2.2.1 t) (sqU y (nI d) (nI e)) <;> cases unl1 (sqV y (nI d) (nI e)) <;> rfl) (fun M2 hP => by
            unfold Mod_squares_B29
            exact if_pos (by decide)) hF hP
        obtain ⟨M1, hP, e⟩ := frs_loop2 (body := Mod_squares_B20 F (nI t) y) (g := sgG (S.2.2.1 t) y) (P := fun M2 => RM S M2 ∧ sameLo M M2) (F := F) (M := M) (fun d M1 _ hd hP => by
          obtain ⟨M2, hP2, e⟩ := inn d M1 hP
          refine ⟨M2, hP2, ?_⟩
          unfold Mod_squares_B20
          dsimp only [lt]
          rw [if_neg (show ¬ (60 : Int32) < nI d from nI_nlt (a := 60) (by omega) (by decide)), e, Option.bind_some, nI_1]
          cases frs (sgG (S.2.2.1 t) y d) 1 60 <;> rfl) (fun M2 hP => by
          unfold Mod_squares_B20
          exact if_pos (by decide)) hF ⟨h, sameLo.rf⟩
        refine ⟨M1, ?_, hP.1, hP.2⟩
        unfold Mod_squares sqsS
        rw [Mod_isTongue_ok, h1, Option.bind_some]
        dsimp only
        rw [if_neg (by decide), Mod_isNumber_ok, h2, Option.bind_some]
        dsimp only
        rw [if_neg (by decide), e, Option.bind_some]
        cases frs (fun d => (frs (sgG (S.2.2.1 t) y d) 1 60).isSome) 1 60 with
        | none => rfl
        | some d =>
          dsimp only
          rw [if_pos rfl, Int32.mul_comm]

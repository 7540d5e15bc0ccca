/-! order, place: from the two sortings -/
def SrtX (F : Nat) : Prop := ∀ t S M, t < 3 → RX S M → ∃ M1 L, Ton_bringInOrder F (14 + 10 * t) M = some ((), M1) ∧ RX S M1 ∧ sameHi M M1 ∧ IsOrd (S.2.2.1 t) L ∧ ∀ i, i < L.length → M1.1 (14 + 10 * t + 9) i = nI (L.getD i 0)
def SrtM (F : Nat) : Prop := ∀ t S M, t < 3 → okS S → RM S M → ∃ M1 L, Mod_findOrder F (nI t) M = some ((), M1) ∧ RM S M1 ∧ sameLo M M1 ∧ IsOrd (S.2.2.1 t) L ∧ M1.1 63 37 = nI L.length ∧ ∀ i, i < L.length → M1.1 91 i = nI (L.getD i 0)
theorem IsOrd.len {T : Tn} {L : List Nat} (h : IsOrd T L) : L.length = (named T).length ∧ L.length ≤ 1000 := by
  have e := h.1.length_eq
  refine ⟨e, ?_⟩
  rw [e]
  unfold named
  exact Nat.le_trans (List.length_filter_le _ _) (by rw [List.length_range]; exact Nat.le_refl _)
theorem ok_order_of {F : Nat} (hX : SrtX F) (hM : SrtM F) (x y : Int32) : Good (NW_order F x y) (Mod_order F x y) := by
  cases h1 : inb x 3 with
  | false => exact mkGood0 (fun _ => -1001) (fun S M h => by simp [NW_order, NW_isTongue_ok, h1, bI]) (fun S M h0 h => by simp [Mod_order, Mod_isTongue_ok, h1, bI])
  | true =>
    obtain ⟨t, ht, rfl⟩ := inb_of h1 (by decide)
    intro M ⟨S, r1, r2⟩
    obtain ⟨M1, L, e1, w1, s1, o1, v1⟩ := hX t S M ht r1
    obtain ⟨M2, L2, e2, w2, s2, o2, n2, v2⟩ := hM t S M1 ht r1.ok (r2.same s1)
    have eL := o2.one o1
    subst eL
    obtain ⟨l1, l2⟩ := o1.len
    have hT := w1.2.2.2.2.2.1 t ht
    have hn : M1.1 (14 + 10 * t) 1 = nI L2.length := by rw [hT.2.2.1, l1]
    refine ⟨nthI L2 y, M1, M2, ?_, ?_, S, w1.same s2, w2⟩
    · unfold NW_order
      rw [NW_isTongue_ok, h1, Option.bind_some]
      dsimp only
      rw [if_neg (by decide), if_pos rfl, tgA_n t ht]
      unfold Ton_numberAt nthI
      rw [e1, Option.bind_some]
      dsimp only
      rw [hn]
      cases c : inb y L2.length with
      | true =>
        obtain ⟨j, hj, rfl⟩ := inb_of c (by omega)
        rw [if_neg (nI_pos (by omega)), if_neg (nI_ge hj (by omega)), if_neg (show ¬ (1000 : Int32) ≤ nI j from nI_ge (b := 1000) (by omega) (by decide)), if_pos (inb_nI (by omega) (by decide)), nI_clamp (by omega), v1 j hj]
        rfl
      | false =>
        by_cases q0 : y < 0
        · rw [if_pos q0]; rfl
        · rw [if_neg q0]
          rcases inb_f c with q | q
          · exact absurd q q0
          · rw [if_pos (q (by omega))]; rfl
    · unfold Mod_order nthI
      rw [Mod_isTongue_ok, h1, Option.bind_some]
      dsimp only
      rw [if_neg (by decide), e2, Option.bind_some]
      dsimp only
      rw [Mod_in_ok, n2, in_sub1 (by omega), Option.bind_some]
      dsimp only
      cases c : inb y L2.length with
      | true =>
        obtain ⟨j, hj, rfl⟩ := inb_of c (by omega)
        rw [if_neg (by decide), if_pos (inb_nI (by omega) (by decide)), nI_clamp (by omega), v2 j hj]
        rfl
      | false => rfl
theorem frs_loop0 {body : Int32 × zM → Option (Nat × (Int32 × zM))} {p : Nat → Bool} {N F : Nat} {M : zM} (hN : N ≤ 1000) (h1 : ∀ i, i < N → body (nI i, M) = if p i = true then some (1, nI i, M) else some (0, nI (i + 1), M)) (h2 : body (nI N, M) = some (2, 0, M)) (hF : 3000 < F) : loopN body F (0, M) = some (match frs p 0 N with | some e => (1, nI e, M) | none => (2, 0, M)) := by
  have key := loopN_inv (body := body) (I := fun i s => s = (nI i, M) ∧ frs p 0 N = frs p i (N - i)) (Qx := fun q => q = (match frs p 0 N with | some e => (1, nI e, M) | none => (2, 0, M))) (N := N) (F := F) (s := (0, M)) (fun i s hi hs => by
    obtain ⟨rfl, hf⟩ := hs
    rw [h1 i hi]
    rw [show N - i = (N - (i + 1)) + 1 by omega] at hf
    have hf : frs p 0 N = if p i = true then some i else frs p (i + 1) (N - (i + 1)) := hf
    by_cases c : p i = true
    · rw [if_pos c] at hf ⊢
      exact Or.inr ⟨_, rfl, (fun q => by cases q), by rw [hf]⟩
    · rw [if_neg c] at hf ⊢
      exact Or.inl ⟨_, rfl, rfl, hf⟩) (fun s hs => by
    obtain ⟨rfl, hf⟩ := hs
    rw [Nat.sub_self] at hf
    have hf : frs p 0 N = none := hf
    exact ⟨_, h2, (fun q => by cases q), by rw [hf]⟩) (by omega) ⟨rfl, rfl⟩
  obtain ⟨q, e, rfl⟩ := key
  exact e
theorem ok_place_of {F : Nat} (hX : SrtX F) (hM : SrtM F) (hF : 3000 < F) (x y : Int32) : Good (NW_place F x y) (Mod_place F x y) := by
  cases h1 : inb x 3 with
  | false => exact mkGood0 (fun _ => -1001) (fun S M h => by simp [NW_place, NW_isTongue_ok, h1, bI]) (fun S M h0 h => by simp [Mod_place, Mod_isTongue_ok, h1, bI])
  | true =>
    cases h2 : inb y 1000 with
    | false => exact mkGood0 (fun _ => -1001) (fun S M h => by simp [NW_place, NW_isTongue_ok, NW_isNumber_ok, h1, h2, bI]) (fun S M h0 h => by simp [Mod_place, Mod_isTongue_ok, Mod_isNumber_ok, h1, h2, bI])
    | true =>
      obtain ⟨t, ht, rfl⟩ := inb_of h1 (by decide)
      intro M ⟨S, r1, r2⟩
      obtain ⟨M1, L, e1, w1, s1, o1, v1⟩ := hX t S M ht r1
      obtain ⟨M2, L2, e2, w2, s2, o2, n2, v2⟩ := hM t S M1 ht r1.ok (r2.same s1)
      have eL := o2.one o1
      subst eL
      obtain ⟨l1, l2⟩ := o1.len
      have hT := w1.2.2.2.2.2.1 t ht
      have hn : M1.1 (14 + 10 * t) 1 = nI L2.length := by rw [hT.2.2.1, l1]
      have k1 := frs_loop0 (body := Ton_placeOf_B7 F (14 + 10 * t) y) (p := fun i => decide (nI (L2.getD i 0) = y)) (N := L2.length) (F := F) (M := M1) l2 (fun i hi => by
        unfold Ton_placeOf_B7
        dsimp only [lt]
        rw [hn, if_neg (nI_ge hi (by omega)), if_neg (show ¬ (1000 : Int32) ≤ nI i from nI_ge (b := 1000) (by omega) (by decide)), if_pos (inb_nI (by omega) (by decide)), nI_clamp (by omega), v1 i hi, nI_1]
        by_cases c : nI (L2.getD i 0) = y
        · rw [if_pos c, if_pos (decide_eq_true c)]
        · rw [if_neg c, if_neg (fun q => c (of_decide_eq_true q))]) (by
        unfold Ton_placeOf_B7
        dsimp only
        rw [hn, if_pos (nI_le (Nat.le_refl _) (by omega))]) hF
      have k2 := frs_loop0 (body := Mod_place_B25 F y) (p := fun i => decide (nI (L2.getD i 0) = y)) (N := L2.length) (F := F) (M := M2) l2 (fun i hi => by
        unfold Mod_place_B25
        dsimp only [lt]
        rw [n2, if_neg (nI_ge hi (by omega)), if_pos (inb_nI (by omega) (by decide)), nI_clamp (by omega), v2 i hi, nI_1]
        by_cases c : nI (L2.getD i 0) = y
        · rw [if_pos c, if_pos (decide_eq_true c)]
        · rw [if_neg c, if_neg (fun q => c (of_decide_eq_true q))]) (by
        unfold Mod_place_B25
        dsimp only
        rw [n2, if_pos (nI_le (Nat.le_refl _) (by omega))]) hF
      refine ⟨match frs (fun i => decide (nI (L2.getD i 0) = y)) 0 L2.length with | some e => nI e | none => -1, M1, M2, ?_, ?_, S, w1.same s2, w2⟩
      · unfold NW_place
        rw [NW_isTongue_ok, h1, Option.bind_some]
        dsimp only
        rw [if_neg (by decide), NW_isNumber_ok, h2, Option.bind_some]
        dsimp only
        rw [if_neg (by decide), if_pos rfl, tgA_n t ht]
        unfold Ton_placeOf
        rw [e1, Option.bind_some]
        dsimp only
        rw [k1, Option.bind_some]
        cases frs (fun i => decide (nI (L2.getD i 0) = y)) 0 L2.length <;> rfl
      · unfold Mod_place
        rw [Mod_isTongue_ok, h1, Option.bind_some]
        dsimp only
        rw [if_neg (by decide), Mod_isNumber_ok, h2, Option.bind_some]
        dsimp only
        rw [if_neg (by decide), e2, Option.bind_some]
        dsimp only
        rw [k2, Option.bind_some]
        cases frs (fun i => decide (nI (L2.getD i 0) = y)) 0 L2.length <;> rfl

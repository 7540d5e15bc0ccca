/-! the named numbers, gathered -/
theorem XN.keep {a n : Nat} {q : Option Nm} {M M' : zM} (h : XN a n q M) (hs : ∀ b, a ≤ b → b ≤ a + 8 → M'.1 b = M.1 b ∧ M'.2 b = M.2 b) : XN a n q M' := by
  unfold XN at h ⊢
  rw [(hs (a + 5) (by omega) (by omega)).1, (hs (a + 6) (by omega) (by omega)).1, (hs (a + 7) (by omega) (by omega)).1, (hs (a + 8) (by omega) (by omega)).1, (hs (a + 1 + 1) (by omega) (by omega)).2, (hs (a + 3 + 1) (by omega) (by omega)).2]
  exact h
theorem has_x {F a n : Nat} {q : Option Nm} {M : zM} (h : XN a n q M) (hn : n < 1000) : Ton_has F a (nI n) M = some (bI q.isSome, M) := by
  show (if nI n < 0 then some ((0 : Int32), M) else if nI 1000 ≤ nI n then some (0, M) else if inb (nI n) 1000 = true then if (M.1 (a + 5) (nI n).toNatClampNeg) = (-1) then some (0, M) else some (1, M) else none) = _
  rw [if_neg (nI_pos (by omega)), if_neg (nI_ge (b := 1000) hn (by decide)), if_pos (inb_nI hn (by decide)), nI_clamp (by omega)]
  unfold XN at h
  cases q with
  | none => rw [if_pos h]; rfl
  | some q =>
    obtain ⟨w, b, d⟩ := q
    obtain ⟨ok, -, -, -, h5, -⟩ := h
    rw [if_neg (by rw [h5]; exact nlen_ne (by have := ok.1; omega))]
    rfl
theorem putNamed_ok {F a c : Nat} {T : Tn} {M : zM} (h : ∀ n, n < 1000 → XN a n (T.2 n) M) (hc : c < a ∨ a + 8 < c) (hz : zN c = 1000) (hF : 3000 < F) : ∃ M1, Ton_putNamedInto F a c M = some ((), M1) ∧ copyA M M1 c (flN (fun n => (T.2 n).isSome) 1000) := by
  have key := loopN_inv (body := Ton_putNamedInto_B4 F a c) (I := fun i s => ∃ M1, s = (nI (flN (fun n => (T.2 n).isSome) i).length, nI i, M1) ∧ copyA M M1 c (flN (fun n => (T.2 n).isSome) i)) (Qx := fun q => ∃ M1, q = (1, 0, 0, M1) ∧ copyA M M1 c (flN (fun n => (T.2 n).isSome) 1000)) (N := 1000) (F := F) (s := (0, 0, M)) (fun i s hi hs => by
    obtain ⟨M1, rfl, k1, k2, k3⟩ := hs
    have hl := flN_len (fun n => (T.2 n).isSome) i
    have hx : XN a i (T.2 i) M1 := (h i hi).keep (fun b hb1 hb2 => ⟨k1 b (by omega), by rw [k2]⟩)
    refine Or.inl ?_
    unfold Ton_putNamedInto_B4
    dsimp only [lt]
    rw [if_neg (show ¬ (1000 : Int32) ≤ nI i from nI_ge (b := 1000) hi (by decide)), has_x hx hi, Option.bind_some, flN_s, hz]
    dsimp only
    cases e : (T.2 i).isSome with
    | false =>
      rw [if_pos (by decide), if_neg (by decide), nI_1]
      exact ⟨_, rfl, M1, rfl, k1, k2, k3⟩
    | true =>
      rw [if_neg (by decide), if_neg (show ¬ Int32.ofNat 1000 ≤ nI (flN (fun n => (T.2 n).isSome) i).length from nI_ge (b := 1000) (by omega) (by decide)), if_pos (inb_nI (by omega) (by decide)), nI_clamp (by omega), if_pos rfl, nI_1, nI_1]
      refine ⟨_, rfl, _, by rw [List.length_append]; rfl, fun b hb => (zI_other hb).trans (k1 b hb), k2, fun j hj => ?_⟩
      rw [List.length_append] at hj
      have hj : j < (flN (fun n => (T.2 n).isSome) i).length + 1 := hj
      by_cases z : j = (flN (fun n => (T.2 n).isSome) i).length
      · rw [z, zI_in, getD_app2]
      · rw [zI_ne (Or.inr z), getD_app1 (by omega)]
        exact k3 j (by omega)) (fun s hs => by
    obtain ⟨M1, rfl, k⟩ := hs
    refine ⟨(1, 0, 0, M1), ?_, (fun q => by cases q), M1, rfl, k⟩
    unfold Ton_putNamedInto_B4
    exact if_pos (by decide)) (by omega) ⟨M, rfl, fun _ _ => rfl, rfl, fun j hj => absurd hj (Nat.not_lt_zero j)⟩
  obtain ⟨q, e, M1, rfl, k⟩ := key
  refine ⟨M1, ?_, k⟩
  unfold Ton_putNamedInto
  rw [e]
  rfl

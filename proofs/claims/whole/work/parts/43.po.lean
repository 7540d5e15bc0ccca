/-- the reference's row of numbers under way: only it and its count have changed -/
def rowM (M M1 : zM) (l : List Nat) : Prop := (∀ b, b ≠ 63 → b ≠ 91 → M1.1 b = M.1 b) ∧ M1.2 = M.2 ∧ (∀ k, k ≠ 37 → M1.1 63 k = M.1 63 k) ∧ M1.1 63 37 = nI l.length ∧ ∀ j, j < l.length → M1.1 91 j = nI (l.getD j 0)
theorem gatherM_ok {F t : Nat} {T : Tn} {M : zM} (hT : ∀ n, n < 1000 → MN (1000 * t + n) (T.2 n) M) (hlen : lenT T) (ht : t < 3) (hF : 3000 < F) : ∃ M1, loopN (Mod_findOrder_B23 F (nI t)) F (0, zI M 63 37 0) = some (1, 0, M1) ∧ rowM M M1 (flN (fun n => (T.2 n).isSome) 1000) := by
  have key := loopN_inv (body := Mod_findOrder_B23 F (nI t)) (I := fun i s => ∃ M1, s = (nI i, M1) ∧ rowM M M1 (flN (fun n => (T.2 n).isSome) i)) (Qx := fun q => ∃ M1, q = (1, 0, M1) ∧ rowM M M1 (flN (fun n => (T.2 n).isSome) 1000)) (N := 1000) (F := F) (s := (0, zI M 63 37 0)) (fun i s hi hs => by
    obtain ⟨M1, rfl, k1, k2, k3, k4, k5⟩ := hs
    have hl := flN_len (fun n => (T.2 n).isSome) i
    have e1 : inb (nI (1000 * t + i)) 3000 = true := inb_nI (by omega) (by decide)
    have e2 : (nI (1000 * t + i)).toNatClampNeg = 1000 * t + i := nI_clamp (by omega)
    have hm := hT i hi
    refine Or.inl ?_
    unfold Mod_findOrder_B23
    dsimp only [lt]
    rw [if_neg (show ¬ (1000 : Int32) ≤ nI i from nI_ge (b := 1000) hi (by decide)), ix_t, if_pos e1, e2, k1 74 (by decide) (by decide), flN_s, nI_1]
    unfold MN at hm
    cases e : T.2 i with
    | none =>
      rw [e] at hm
      rw [hm.1, if_pos (by decide), if_neg (by simp)]
      exact ⟨_, rfl, M1, rfl, k1, k2, k3, k4, k5⟩
    | some q =>
      have := hlen i hi q.1 q.2.1 q.2.2 e
      rw [e] at hm
      rw [hm.1, if_neg (nI_pos (by omega)), k4, if_pos (inb_nI (by omega) (by decide)), nI_clamp (by omega), if_pos (by simp), zI_other (by decide), k4, nI_1]
      refine ⟨_, rfl, _, rfl, fun b hb1 hb2 => (zI_other hb1).trans ((zI_other hb2).trans (k1 b hb1 hb2)), k2, fun k hk => ?_, ?_, fun j hj => ?_⟩
      · rw [zI_ne (Or.inr hk), zI_other (by decide)]; exact k3 k hk
      · rw [zI_in, List.length_append]; rfl
      · rw [zI_other (by decide)]
        rw [List.length_append] at hj
        have hj : j < (flN (fun n => (T.2 n).isSome) i).length + 1 := hj
        by_cases z : j = (flN (fun n => (T.2 n).isSome) i).length
        · rw [z, zI_in, getD_app2]
        · rw [zI_ne (Or.inr z), getD_app1 (by omega)]
          exact k5 j (by omega)) (fun s hs => by
    obtain ⟨M1, rfl, k⟩ := hs
    refine ⟨(1, 0, M1), ?_, (fun q => by cases q), M1, rfl, k⟩
    unfold Mod_findOrder_B23
    exact if_pos (by decide)) (by omega) ⟨_, rfl, fun b hb _ => zI_other hb, rfl, fun k hk => zI_ne (Or.inr hk), zI_in, fun j hj => absurd hj (Nat.not_lt_zero j)⟩
  obtain ⟨q, e, M1, rfl, k⟩ := key
  exact ⟨M1, e, k⟩

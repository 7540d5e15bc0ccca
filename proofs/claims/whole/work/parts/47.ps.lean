/-! a pass of the Shell sort keeps a permutation -/
theorem passM {F t h : Nat} {T : Tn} {M0 M : zM} {l : List Nat} (hT : ∀ n, n < 1000 → MN (1000 * t + n) (T.2 n) M0) (hok : ∀ n, n < 1000 → ∀ w b d, T.2 n = some (w, b, d) → okW w) (ht : t < 3) (hr : rowM M0 M l) (hl : l.length ≤ 1000) (hh : 0 < h) (hh2 : h < 1000) (hn : nmdL T l) (hF : 3000 < F) : ∃ M1 l1, loopN (Mod_findOrder_B81 F (nI t) (nI h)) F (nI h, M) = some (1, 0, M1) ∧ rowM M0 M1 l1 ∧ l1.Perm l := by
  have key := loopN_inv (body := Mod_findOrder_B81 F (nI t) (nI h)) (I := fun i s => ∃ M1 l1, s = (nI (h + i), M1) ∧ rowM M0 M1 l1 ∧ l1.Perm l) (Qx := fun q => ∃ M1 l1, q = (1, 0, M1) ∧ rowM M0 M1 l1 ∧ l1.Perm l) (N := l.length - h) (F := F) (s := (nI h, M)) (fun i s hi hs => by
    obtain ⟨M1, l1, rfl, r1, p1⟩ := hs
    have e1 := p1.length_eq
    have n1 : nmdL T l1 := fun y hy => hn y (p1.subset hy)
    have hp : h + i < l1.length := by omega
    have hx := n1 _ (getD_mem hp)
    obtain ⟨M2, l2, k, k1, k2, k3, k4, k5, k6⟩ := innerM (F := F) (h := h) (p := h + i) (x := l1.getD (h + i) 0) (x3 := nI (h + i)) hT hok ht r1 (by omega) hh hh2 hp hx n1 hF
    refine Or.inl ?_
    unfold Mod_findOrder_B81
    dsimp only [lt]
    rw [r1.2.2.2.1, if_neg (nI_ge hp (by omega)), if_pos (inb_nI (by omega) (by decide)), nI_clamp (by omega), r1.2.2.2.2 _ hp, k1, Option.bind_some]
    dsimp only
    rw [if_pos rfl]
    unfold Mod_findOrder_J150
    dsimp only [lt]
    rw [if_pos (inb_nI (by omega) (by decide)), nI_clamp (by omega), nI_1]
    refine ⟨_, rfl, _, l2.set k (l1.getD (h + i) 0), rfl, k2.set, k6.trans ?_⟩
    rw [getD_g hp, List.set_getElem_self]
    exact p1) (fun s hs => by
    obtain ⟨M1, l1, rfl, r1, p1⟩ := hs
    have e1 := p1.length_eq
    refine ⟨(1, 0, M1), ?_, (fun q => by cases q), M1, l1, rfl, r1, p1⟩
    unfold Mod_findOrder_B81
    dsimp only
    rw [r1.2.2.2.1, if_pos (nI_le (by omega) (by omega))]) (by omega) ⟨M, l, rfl, hr, List.Perm.refl _⟩
  obtain ⟨q, e, M1, l1, rfl, r⟩ := key
  exact ⟨M1, l1, e, r⟩

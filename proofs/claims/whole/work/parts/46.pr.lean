/-! the last pass: insertion -/
theorem innerM1 {F t p x : Nat} {T : Tn} {x3 : Int32} {M0 M : zM} {l : List Nat} (hT : ∀ n, n < 1000 → MN (1000 * t + n) (T.2 n) M0) (hok : ∀ n, n < 1000 → ∀ w b d, T.2 n = some (w, b, d) → okW w) (ht : t < 3) (hr : rowM M0 M l) (hl : l.length ≤ 1000) (hp : p < l.length) (hx : x < 1000 ∧ (T.2 x).isSome = true) (hn : nmdL T l) (hF : 3000 < F) : ∃ M1 l1 k, loopN (Mod_findOrder_B100 F (nI t) 1 x3 (nI x)) F (nI p, M) = some (1, nI k, M1) ∧ rowM M0 M1 l1 ∧ l1.length = l.length ∧ k < l.length ∧ nmdL T l1 ∧ k ≤ p ∧ (∀ j, j < k → l1.getD j 0 = l.getD j 0) ∧ (∀ j, k < j → j ≤ p → l1.getD j 0 = l.getD (j - 1) 0 ∧ ahB (nmW T x) (nmW T (l.getD (j - 1) 0)) x (l.getD (j - 1) 0) = true) ∧ (∀ j, p < j → l1.getD j 0 = l.getD j 0) ∧ (k = 0 ∨ ahB (nmW T x) (nmW T (l.getD (k - 1) 0)) x (l.getD (k - 1) 0) = false) := by
  have key := loopN_inv (body := Mod_findOrder_B100 F (nI t) 1 x3 (nI x)) (I := fun i s => ∃ M1 l1 k, s = (nI k, M1) ∧ k + i ≤ p ∧ rowM M0 M1 l1 ∧ l1.length = l.length ∧ nmdL T l1 ∧ (∀ j, j < k → l1.getD j 0 = l.getD j 0) ∧ (∀ j, k < j → j ≤ p → l1.getD j 0 = l.getD (j - 1) 0 ∧ ahB (nmW T x) (nmW T (l.getD (j - 1) 0)) x (l.getD (j - 1) 0) = true) ∧ (∀ j, p < j → l1.getD j 0 = l.getD j 0)) (Qx := fun q => ∃ M1 l1 k, q = (1, nI k, M1) ∧ rowM M0 M1 l1 ∧ l1.length = l.length ∧ k < l.length ∧ nmdL T l1 ∧ k ≤ p ∧ (∀ j, j < k → l1.getD j 0 = l.getD j 0) ∧ (∀ j, k < j → j ≤ p → l1.getD j 0 = l.getD (j - 1) 0 ∧ ahB (nmW T x) (nmW T (l.getD (j - 1) 0)) x (l.getD (j - 1) 0) = true) ∧ (∀ j, p < j → l1.getD j 0 = l.getD j 0) ∧ (k = 0 ∨ ahB (nmW T x) (nmW T (l.getD (k - 1) 0)) x (l.getD (k - 1) 0) = false)) (N := 1000) (F := F) (s := (nI p, M)) (fun i s hi hs => by
    obtain ⟨M1, l1, k, rfl, hk, r1, e1, n1, q1, q2, q3⟩ := hs
    unfold Mod_findOrder_B100
    dsimp only [lt]
    by_cases c : k < 1
    · rw [if_pos (show nI k < (1 : Int32) from nI_lt (b := 1) c (by decide))]
      exact Or.inr ⟨_, rfl, (fun q => by cases q), M1, l1, k, rfl, r1, e1, by omega, n1, by omega, q1, q2, q3, Or.inl (by omega)⟩
    · have hkl : k - 1 < l1.length := by omega
      have hkk : k < l1.length := by omega
      have hy := n1 _ (getD_mem hkl)
      have hT1 : ∀ n, n < 1000 → MN (1000 * t + n) (T.2 n) M1 := fun n hn => (hT n hn).same (fun b h1 h2 => ⟨r1.1 b (by omega) (by omega), by rw [r1.2.1]⟩)
      rw [if_neg (show ¬ nI k < (1 : Int32) from nI_nlt (b := 1) (by omega) (by omega)), show nI k - 1 = nI (k - 1) from pk_sub (b := 1) (by omega), if_pos (inb_nI (by omega) (by decide)), nI_clamp (by omega), r1.2.2.2.2 _ hkl, aheadM_ok hT1 hok ht hx hy hF, Option.bind_some]
      dsimp only
      have el : l1.getD (k - 1) 0 = l.getD (k - 1) 0 := q1 (k - 1) (by omega)
      cases ec : ahB (nmW T x) (nmW T (l1.getD (k - 1) 0)) x (l1.getD (k - 1) 0) with
      | false =>
        rw [if_pos (by decide)]
        exact Or.inr ⟨_, rfl, (fun q => by cases q), M1, l1, k, rfl, r1, e1, by omega, n1, by omega, q1, q2, q3, Or.inr (by rw [← el]; exact ec)⟩
      | true =>
        rw [if_neg (by decide), if_pos (inb_nI (by omega) (by decide)), nI_clamp (by omega), r1.2.2.2.2 _ hkl]
        refine Or.inl ⟨_, rfl, _, l1.set k (l1.getD (k - 1) 0), k - 1, rfl, by omega, r1.set, by rw [List.length_set]; exact e1, fun y hy' => ?_, fun j hj => ?_, fun j hj1 hj2 => ?_, fun j hj => ?_⟩
        · rcases List.mem_or_eq_of_mem_set hy' with q | q
          · exact n1 y q
          · rw [q]; exact hy
        · rw [getD_set (by omega), if_neg (by omega)]; exact q1 j (by omega)
        · rw [getD_set (by omega)]
          by_cases z : k = j
          · rw [if_pos z, ← z, el]; rw [el] at ec; exact ⟨rfl, ec⟩
          · rw [if_neg z]; exact q2 j (by omega) hj2
        · by_cases z : j < l1.length
          · rw [getD_set z, if_neg (by omega)]; exact q3 j hj
          · rw [← q3 j hj]
            have a1 : (l1.set k (l1.getD (k - 1) 0))[j]? = none := List.getElem?_eq_none (by rw [List.length_set]; omega)
            have a2 : l1[j]? = none := List.getElem?_eq_none (by omega)
            simp only [List.getD_eq_getElem?_getD] at a1 ⊢
            rw [a1, a2]) (fun s hs => by
    obtain ⟨M1, l1, k, rfl, hk, -⟩ := hs
    omega) (by omega) ⟨M, l, p, rfl, by omega, hr, rfl, hn, fun _ _ => rfl, fun j h1 h2 => by omega, fun _ _ => rfl⟩
  obtain ⟨q, e, M1, l1, k, rfl, r⟩ := key
  exact ⟨M1, l1, k, e, r⟩

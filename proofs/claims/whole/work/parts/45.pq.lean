/-! the Shell sort's inner loop: a permutation for every gap -/
def nmdL (T : Tn) (l : List Nat) : Prop := ∀ y ∈ l, y < 1000 ∧ (T.2 y).isSome = true
theorem aheadM_ok {F t x y : Nat} {T : Tn} {M : zM} (hT : ∀ n, n < 1000 → MN (1000 * t + n) (T.2 n) M) (hok : ∀ n, n < 1000 → ∀ w b d, T.2 n = some (w, b, d) → okW w) (ht : t < 3) (hx : x < 1000 ∧ (T.2 x).isSome = true) (hy : y < 1000 ∧ (T.2 y).isSome = true) (hF : 3000 < F) : Mod_isAhead F (nI t) (nI x) (nI y) M = some (bI (ahB (nmW T x) (nmW T y) x y), M) := by
  obtain ⟨⟨v, b, d⟩, e1⟩ := Option.isSome_iff_exists.mp hx.2
  obtain ⟨⟨w, b', d'⟩, e2⟩ := Option.isSome_iff_exists.mp hy.2
  have m1 := hT x hx.1
  have m2 := hT y hy.1
  rw [e1] at m1
  rw [e2] at m2
  have n1 : nmW T x = v := by unfold nmW; rw [e1]
  have n2 : nmW T y = w := by unfold nmW; rw [e2]
  rw [n1, n2]
  exact isAhead_ok (hok x hx.1 v b d e1) (hok y hy.1 w b' d' e2) m1 m2 ht hx.1 hy.1 hF
theorem innerM {F t h p x : Nat} {T : Tn} {x3 : Int32} {M0 M : zM} {l : List Nat} (hT : ∀ n, n < 1000 → MN (1000 * t + n) (T.2 n) M0) (hok : ∀ n, n < 1000 → ∀ w b d, T.2 n = some (w, b, d) → okW w) (ht : t < 3) (hr : rowM M0 M l) (hl : l.length ≤ 1000) (hh : 0 < h) (hh2 : h < 1000) (hp : p < l.length) (hx : x < 1000 ∧ (T.2 x).isSome = true) (hn : nmdL T l) (hF : 3000 < F) : ∃ M1 l1 k, loopN (Mod_findOrder_B100 F (nI t) (nI h) x3 (nI x)) F (nI p, M) = some (1, nI k, M1) ∧ rowM M0 M1 l1 ∧ l1.length = l.length ∧ k < l.length ∧ nmdL T l1 ∧ (l1.set k x).Perm (l.set p x) := by
  have key := loopN_inv (body := Mod_findOrder_B100 F (nI t) (nI h) x3 (nI x)) (I := fun i s => ∃ M1 l1 k, s = (nI k, M1) ∧ k + i ≤ p ∧ rowM M0 M1 l1 ∧ l1.length = l.length ∧ nmdL T l1 ∧ (l1.set k x).Perm (l.set p x)) (Qx := fun q => ∃ M1 l1 k, q = (1, nI k, M1) ∧ rowM M0 M1 l1 ∧ l1.length = l.length ∧ k < l.length ∧ nmdL T l1 ∧ (l1.set k x).Perm (l.set p x)) (N := 1000) (F := F) (s := (nI p, M)) (fun i s hi hs => by
    obtain ⟨M1, l1, k, rfl, hk, r1, e1, n1, p1⟩ := hs
    unfold Mod_findOrder_B100
    dsimp only [lt]
    by_cases c : k < h
    · rw [if_pos (nI_lt c (by omega))]
      exact Or.inr ⟨_, rfl, (fun q => by cases q), M1, l1, k, rfl, r1, e1, by omega, n1, p1⟩
    · have hkl : k - h < l1.length := by omega
      have hkk : k < l1.length := by omega
      have hy := n1 _ (getD_mem hkl)
      have hT1 : ∀ n, n < 1000 → MN (1000 * t + n) (T.2 n) M1 := fun n hn => (hT n hn).same (fun b h1 h2 => ⟨r1.1 b (by omega) (by omega), by rw [r1.2.1]⟩)
      rw [if_neg (nI_nlt (by omega) (by omega)), pk_sub (by omega), if_pos (inb_nI (by omega) (by decide)), nI_clamp (by omega), r1.2.2.2.2 _ hkl, aheadM_ok hT1 hok ht hx hy hF, Option.bind_some]
      dsimp only
      cases ahB (nmW T x) (nmW T (l1.getD (k - h) 0)) x (l1.getD (k - h) 0) with
      | false =>
        rw [if_pos (by decide)]
        exact Or.inr ⟨_, rfl, (fun q => by cases q), M1, l1, k, rfl, r1, e1, by omega, n1, p1⟩
      | true =>
        rw [if_neg (by decide), if_pos (inb_nI (by omega) (by decide)), nI_clamp (by omega), r1.2.2.2.2 _ hkl]
        refine Or.inl ⟨_, rfl, _, l1.set k (l1.getD (k - h) 0), k - h, rfl, by omega, r1.set, by rw [List.length_set]; exact e1, fun y hy' => ?_, (hole_step hkk hkl (by omega)).trans p1⟩
        rcases List.mem_or_eq_of_mem_set hy' with q | q
        · exact n1 y q
        · rw [q]; exact hy) (fun s hs => by
    obtain ⟨M1, l1, k, rfl, hk, -⟩ := hs
    omega) (by omega) ⟨M, l, p, rfl, by omega, hr, rfl, hn, List.Perm.refl _⟩
  obtain ⟨q, e, M1, l1, k, rfl, r⟩ := key
  exact ⟨M1, l1, k, e, r⟩

/-! a row with a hole -/
theorem swp {l : List Nat} {i j : Nat} (hi : i < l.length) (hj : j < l.length) : ((l.set i l[j]).set j l[i]).Perm l := List.set_set_perm hi hj
theorem getD_g {l : List Nat} {i : Nat} (h : i < l.length) : l.getD i 0 = l[i] := by
  rw [List.getD_eq_getElem?_getD, List.getElem?_eq_getElem h]; rfl
theorem hole_step {l : List Nat} {k j x : Nat} (hk : k < l.length) (hj : j < l.length) (hne : k ≠ j) : ((l.set k (l.getD j 0)).set j x).Perm (l.set k x) := by
  have h := swp (l := l.set k x) (i := k) (j := j) (by rw [List.length_set]; exact hk) (by rw [List.length_set]; exact hj)
  rw [List.getElem_set_self, List.getElem_set_ne hne, List.set_set] at h
  rw [getD_g hj]
  exact h
theorem getD_set {l : List Nat} {i j x : Nat} (hj : j < l.length) : (l.set i x).getD j 0 = if i = j then x else l.getD j 0 := by
  rw [getD_g (by rw [List.length_set]; exact hj), List.getElem_set, getD_g hj]
theorem rowM.set {M M1 : zM} {l : List Nat} {i x : Nat} (h : rowM M M1 l) : rowM M (zI M1 91 i (nI x)) (l.set i x) := by
  obtain ⟨k1, k2, k3, k4, k5⟩ := h
  refine ⟨fun b h1 h2 => (zI_other h2).trans (k1 b h1 h2), k2, fun k hk => ?_, ?_, fun j hj => ?_⟩
  · rw [zI_other (by decide)]; exact k3 k hk
  · rw [zI_other (by decide), k4, List.length_set]
  · rw [List.length_set] at hj
    rw [getD_set hj]
    by_cases c : i = j
    · rw [if_pos c, ← c, zI_in]
    · rw [if_neg c, zI_ne (Or.inr (fun q => c q.symm))]; exact k5 j hj

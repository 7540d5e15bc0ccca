/-! the last pass of the Shell sort brings into order; the reference's order -/
theorem ahB_iff {T : Tn} {x y : Nat} : ahB (nmW T x) (nmW T y) x y = true ↔ ahead T x y := by
  unfold ahB ahead
  rw [Bool.or_eq_true, Bool.and_eq_true, decide_eq_true_iff, decide_eq_true_iff]
theorem nd_ne {l : List Nat} (h : l.Nodup) {i j : Nat} (hij : i < j) (hj : j < l.length) : l.getD i 0 ≠ l.getD j 0 := by
  rw [getD_g (by omega), getD_g hj]
  exact List.pairwise_iff_getElem.mp h i j (by omega) hj hij
theorem list_getD_ext {l l' : List Nat} (e : l.length = l'.length) (h : ∀ j, j < l.length → l.getD j 0 = l'.getD j 0) : l = l' :=
  List.ext_getElem e (fun j h1 h2 => by have := h j h1; rw [getD_g h1, getD_g h2] at this; exact this)
theorem passM1 {F t : Nat} {T : Tn} {M0 M : zM} {l : List Nat} (hT : ∀ n, n < 1000 → MN (1000 * t + n) (T.2 n) M0) (hok : ∀ n, n < 1000 → ∀ w b d, T.2 n = some (w, b, d) → okW w) (ht : t < 3) (hr : rowM M0 M l) (hl : l.length ≤ 1000) (hn : nmdL T l) (hnd : l.Nodup) (hF : 3000 < F) : ∃ M1 l1, loopN (Mod_findOrder_B81 F (nI t) 1) F (1, M) = some (1, 0, M1) ∧ rowM M0 M1 l1 ∧ l1.Perm l ∧ ∀ a b, a < b → b < l1.length → ahead T (l1.getD a 0) (l1.getD b 0) := by
  have key := loopN_inv (body := Mod_findOrder_B81 F (nI t) 1) (I := fun i s => ∃ M1 l1, s = (nI (1 + i), M1) ∧ rowM M0 M1 l1 ∧ l1.Perm l ∧ ∀ a b, a < b → b < 1 + i → ahead T (l1.getD a 0) (l1.getD b 0)) (Qx := fun q => ∃ M1 l1, q = (1, 0, M1) ∧ rowM M0 M1 l1 ∧ l1.Perm l ∧ ∀ a b, a < b → b < l1.length → ahead T (l1.getD a 0) (l1.getD b 0)) (N := l.length - 1) (F := F) (s := (1, M)) (fun i s hi hs => by
    obtain ⟨M1, l1, rfl, r1, p1, o1⟩ := hs
    have e1 := p1.length_eq
    have d1 : l1.Nodup := p1.nodup_iff.mpr hnd
    have n1 : nmdL T l1 := fun y hy => hn y (p1.subset hy)
    have hp : 1 + i < l1.length := by omega
    have hx := n1 _ (getD_mem hp)
    obtain ⟨M2, l2, k, k1, k2, k3, k4, k5, k6⟩ := innerM (F := F) (h := 1) (p := 1 + i) (x := l1.getD (1 + i) 0) (x3 := nI (1 + i)) hT hok ht r1 (by omega) (by decide) (by decide) hp hx n1 hF
    obtain ⟨M3, l3, k', j1, j2, j3, j4, j5, j6, j7, j8, j9, j10⟩ := innerM1 (F := F) (p := 1 + i) (x := l1.getD (1 + i) 0) (x3 := nI (1 + i)) hT hok ht r1 (by omega) hp hx n1 hF
    have k1 : loopN (Mod_findOrder_B100 F (nI t) 1 (nI (1 + i)) (nI (l1.getD (1 + i) 0))) F (nI (1 + i), M1) = some (1, nI k, M2) := k1
    rw [k1] at j1
    injection j1 with j1
    injection j1 with _ j1
    injection j1 with ek eM
    have ek : k = k' := (nI_eq (by omega) (by omega)).mp ek
    subst ek eM
    have el : l3 = l2 := list_getD_ext (by omega) (fun j hj => by
      have a1 := k2.2.2.2.2 j (by omega)
      have a2 := j2.2.2.2.2 j hj
      rw [a1] at a2
      have b1 := (k5 _ (getD_mem (show j < l2.length by omega))).1
      have b2 := (j5 _ (getD_mem hj)).1
      exact ((nI_eq (by omega) (by omega)).mp a2).symm)
    subst el
    refine Or.inl ?_
    unfold Mod_findOrder_B81
    dsimp only [lt]
    rw [r1.2.2.2.1, if_neg (nI_ge hp (by omega)), if_pos (inb_nI (by omega) (by decide)), nI_clamp (by omega), r1.2.2.2.2 _ hp, k1, Option.bind_some]
    dsimp only
    rw [if_pos rfl]
    unfold Mod_findOrder_J150
    dsimp only [lt]
    rw [if_pos (inb_nI (by omega) (by decide)), nI_clamp (by omega), nI_1]
    refine ⟨_, rfl, _, l3.set k (l1.getD (1 + i) 0), rfl, k2.set, k6.trans ?_, ?_⟩
    · rw [getD_g hp, List.set_getElem_self]
      exact p1
    · have := ins_ord (R := ahead T) (f := fun j => l1.getD j 0) (g := fun j => if k = j then l1.getD (1 + i) 0 else l3.getD j 0) (p := 1 + i) (k := k) (x := l1.getD (1 + i) 0) (fun a b h1 h2 => o1 a b h1 h2) j6 (fun j hj => by rw [if_neg (by omega)]; exact j7 j hj) (fun j h1 h2 => by rw [if_neg (by omega)]; exact ⟨(j8 j h1 h2).1, ahB_iff.mp (j8 j h1 h2).2⟩) (if_pos rfl) (fun j hj => by
        rcases j10 with q | q
        · omega
        · have na : ¬ ahead T (l1.getD (1 + i) 0) (l1.getD (k - 1) 0) := fun z => by rw [ahB_iff.mpr z] at q; cases q
          have nn : ahead T (l1.getD (k - 1) 0) (l1.getD (1 + i) 0) := by
            rcases ahead_tot (T := T) (nd_ne d1 (show k - 1 < 1 + i by omega) hp) with z | z
            · exact z
            · exact absurd z na
          by_cases c : j = k - 1
          · rw [c]; exact nn
          · exact ahead_tr (o1 j (k - 1) (by omega) (by omega)) nn)
      intro a b h1 h2
      rw [getD_set (by omega), getD_set (by omega)]
      exact this a b h1 (by omega)) (fun s hs => by
    obtain ⟨M1, l1, rfl, r1, p1, o1⟩ := hs
    have e1 := p1.length_eq
    refine ⟨(1, 0, M1), ?_, (fun q => by cases q), M1, l1, rfl, r1, p1, fun a b h1 h2 => o1 a b h1 (by omega)⟩
    unfold Mod_findOrder_B81
    dsimp only
    rw [r1.2.2.2.1, if_pos (nI_le (by omega) (by omega))]) (by omega) ⟨M, l, rfl, hr, List.Perm.refl _, fun a b h1 h2 => by omega⟩
  obtain ⟨q, e, M1, l1, rfl, r⟩ := key
  exact ⟨M1, l1, e, r⟩
def gapN (i : Nat) : Nat := [364, 121, 40, 13, 4, 1, 0].getD i 0
theorem gapsM {F t : Nat} {T : Tn} {M0 M : zM} {l : List Nat} (hT : ∀ n, n < 1000 → MN (1000 * t + n) (T.2 n) M0) (hok : ∀ n, n < 1000 → ∀ w b d, T.2 n = some (w, b, d) → okW w) (ht : t < 3) (hr : rowM M0 M l) (hl : l.length ≤ 1000) (hn : nmdL T l) (hnd : l.Nodup) (hF : 3000 < F) : ∃ M1 l1, loopN (Mod_findOrder_B75 F (nI t)) F (364, M) = some (1, 0, M1) ∧ rowM M0 M1 l1 ∧ l1.Perm l ∧ ∀ a b, a < b → b < l1.length → ahead T (l1.getD a 0) (l1.getD b 0) := by
  have stp : ∀ h g M1 l1, 0 < h → h < 1000 → nI h / 3 = g → rowM M0 M1 l1 → l1.Perm l → ∃ M2 l2, Mod_findOrder_B75 F (nI t) (nI h, M1) = some (0, g, M2) ∧ rowM M0 M2 l2 ∧ l2.Perm l := by
    intro h g M1 l1 h1 h2 hg r1 p1
    have e1 := p1.length_eq
    obtain ⟨M2, l2, k1, k2, k3⟩ := passM (F := F) (h := h) hT hok ht r1 (by omega) h1 h2 (fun y hy => hn y (p1.subset hy)) hF
    refine ⟨M2, l2, ?_, k2, k3.trans p1⟩
    unfold Mod_findOrder_B75
    dsimp only [lt]
    rw [if_neg (show ¬ nI h ≤ 0 from nI_ge (a := 0) h1 (by omega)), k1, Option.bind_some]
    dsimp only
    rw [if_pos rfl, hg]
  have key := loopN_inv (body := Mod_findOrder_B75 F (nI t)) (I := fun i s => ∃ M1 l1, s = (nI (gapN i), M1) ∧ rowM M0 M1 l1 ∧ l1.Perm l ∧ (i = 6 → ∀ a b, a < b → b < l1.length → ahead T (l1.getD a 0) (l1.getD b 0))) (Qx := fun q => ∃ M1 l1, q = (1, 0, M1) ∧ rowM M0 M1 l1 ∧ l1.Perm l ∧ ∀ a b, a < b → b < l1.length → ahead T (l1.getD a 0) (l1.getD b 0)) (N := 6) (F := F) (s := (364, M)) (fun i s hi hs => by
    obtain ⟨M1, l1, rfl, r1, p1, -⟩ := hs
    refine Or.inl ?_
    match i, hi with
    | 0, _ =>
      obtain ⟨M2, l2, a, b, c⟩ := stp 364 (nI 121) M1 l1 (by decide) (by decide) (by decide) r1 p1
      exact ⟨_, a, M2, l2, rfl, b, c, fun q => by cases q⟩
    | 1, _ =>
      obtain ⟨M2, l2, a, b, c⟩ := stp 121 (nI 40) M1 l1 (by decide) (by decide) (by decide) r1 p1
      exact ⟨_, a, M2, l2, rfl, b, c, fun q => by cases q⟩
    | 2, _ =>
      obtain ⟨M2, l2, a, b, c⟩ := stp 40 (nI 13) M1 l1 (by decide) (by decide) (by decide) r1 p1
      exact ⟨_, a, M2, l2, rfl, b, c, fun q => by cases q⟩
    | 3, _ =>
      obtain ⟨M2, l2, a, b, c⟩ := stp 13 (nI 4) M1 l1 (by decide) (by decide) (by decide) r1 p1
      exact ⟨_, a, M2, l2, rfl, b, c, fun q => by cases q⟩
    | 4, _ =>
      obtain ⟨M2, l2, a, b, c⟩ := stp 4 (nI 1) M1 l1 (by decide) (by decide) (by decide) r1 p1
      exact ⟨_, a, M2, l2, rfl, b, c, fun q => by cases q⟩
    | 5, _ =>
      have e1 := p1.length_eq
      obtain ⟨M2, l2, k1, k2, k3, k4⟩ := passM1 (F := F) hT hok ht r1 (by omega) (fun y hy => hn y (p1.subset hy)) (p1.nodup_iff.mpr hnd) hF
      refine ⟨(nI 0, M2), ?_, M2, l2, rfl, k2, k3.trans p1, fun _ => k4⟩
      show Mod_findOrder_B75 F (nI t) (1, M1) = _
      unfold Mod_findOrder_B75
      dsimp only [lt]
      rw [if_neg (show ¬ (1 : Int32) ≤ 0 by decide), k1, Option.bind_some]
      rfl) (fun s hs => by
    obtain ⟨M1, l1, rfl, r1, p1, o1⟩ := hs
    exact ⟨(1, 0, M1), rfl, (fun q => by cases q), M1, l1, rfl, r1, p1, o1 rfl⟩) (by omega) ⟨M, l, rfl, hr, List.Perm.refl _, fun q => by cases q⟩
  obtain ⟨q, e, M1, l1, rfl, r⟩ := key
  exact ⟨M1, l1, e, r⟩
theorem pw_of {T : Tn} {l : List Nat} (h : ∀ a b, a < b → b < l.length → ahead T (l.getD a 0) (l.getD b 0)) : l.Pairwise (ahead T) :=
  List.pairwise_iff_getElem.mpr (fun i j hi hj hij => by have := h i j hij hj; rw [getD_g hi, getD_g hj] at this; exact this)
theorem named_nd (T : Tn) : (named T).Nodup := by
  unfold named
  exact List.Pairwise.filter _ List.nodup_range
theorem named_mem {T : Tn} {n : Nat} (h : n ∈ named T) : n < 1000 ∧ (T.2 n).isSome = true := by
  unfold named at h
  rw [List.mem_filter, List.mem_range] at h
  exact h
theorem srtM {F : Nat} (hF : 3000 < F) : SrtM F := by
  intro t S M ht hS h
  have hT := (h.2.2.2.1 t ht).2
  have hok := (hS.2.2.1 t ht).2
  have j16 : ∃ M1 L, Mod_findOrder_J16 F (nI t) M = some ((), M1) ∧ RM S M1 ∧ sameLo M M1 ∧ IsOrd (S.2.2.1 t) L ∧ M1.1 63 37 = nI L.length ∧ ∀ i, i < L.length → M1.1 91 i = nI (L.getD i 0) := by
    obtain ⟨M1, e1, r1⟩ := gatherM_ok (F := F) hT (fun n hn w b d e => (hok n hn w b d e).1.1) ht hF
    have r1 : rowM M M1 (named (S.2.2.1 t)) := r1
    have hlen : (named (S.2.2.1 t)).length ≤ 1000 := by
      unfold named
      exact Nat.le_trans (List.length_filter_le _ _) (by rw [List.length_range]; exact Nat.le_refl _)
    obtain ⟨M2, L, e2, r2, p2, o2⟩ := gapsM (F := F) hT (fun n hn w b d e => (hok n hn w b d e).1) ht r1 hlen (fun y hy => named_mem hy) (named_nd _) hF
    have hO : IsOrd (S.2.2.1 t) L := ⟨p2, pw_of o2⟩
    obtain ⟨c1, c2, c3, c4, c5⟩ := r2
    have b63 : ∀ k, k ≠ 35 → k ≠ 36 → k ≠ 37 → (zI (zI M2 63 35 1) 63 36 (nI t)).1 63 k = M.1 63 k := fun k h1 h2 h3 => by
      rw [zI_ne (Or.inr h2), zI_ne (Or.inr h1)]; exact c3 k h3
    have bo : ∀ b, b ≠ 63 → b ≠ 91 → (zI (zI M2 63 35 1) 63 36 (nI t)).1 b = M.1 b := fun b h1 h2 => (zI_other h1).trans ((zI_other h1).trans (c1 b h1 h2))
    have v37 : (zI (zI M2 63 35 1) 63 36 (nI t)).1 63 37 = nI L.length := by rw [zI_ne (Or.inr (by decide)), zI_ne (Or.inr (by decide))]; exact c4
    have v91 : ∀ i, i < L.length → (zI (zI M2 63 35 1) 63 36 (nI t)).1 91 i = nI (L.getD i 0) := fun i hi => by rw [zI_other (by decide), zI_other (by decide)]; exact c5 i hi
    refine ⟨zI (zI M2 63 35 1) 63 36 (nI t), L, ?_, ?_, ?_, hO, v37, v91⟩
    · unfold Mod_findOrder_J16
      dsimp only [lt]
      rw [e1, Option.bind_some]
      dsimp only
      rw [if_pos rfl, e2, Option.bind_some]
      dsimp only
      rw [if_pos rfl]
    · obtain ⟨h1, h2, h3, h4, h5, h6, h7⟩ := h
      refine ⟨?_, ?_, ?_, fun t' ht' => ⟨?_, fun n hn => ((h4 t' ht').2 n hn).same (fun b q1 q2 => ⟨bo b (by omega) (by omega), ?_⟩)⟩, ?_, ?_, Or.inr ⟨t, L, ht, zI_in, hO, v37, v91⟩, h7.2.same (bo 87 (by decide) (by decide))⟩
      · rw [b63 16 (by decide) (by decide) (by decide)]; exact h1
      · rw [bo 79 (by decide) (by decide)]; exact h2
      · rw [b63 17 (by decide) (by decide) (by decide)]; exact h3
      · rw [bo 64 (by decide) (by decide)]; exact (h4 t' ht').1
      · show M2.2 b = M.2 b
        rw [c2]
      · rw [b63 42 (by decide) (by decide) (by decide)]; exact h5
      · rw [bo 95 (by decide) (by decide)]; exact h6
    · intro a ha
      exact ⟨bo a (by omega) (by omega), by show M2.2 a = M.2 a; rw [c2]⟩
  unfold Mod_findOrder
  by_cases c : M.1 63 35 = 0
  · rw [if_pos c]; exact j16
  · rw [if_neg c]
    rcases h.2.2.2.2.2.2.1 with q | ⟨t', L, q1, q2, q3, q4, q5⟩
    · exact absurd q c
    · by_cases c2 : M.1 63 36 = nI t
      · rw [if_pos c2]
        have et : t' = t := (nI_eq (by omega) (by omega)).mp (q2.symm.trans c2)
        subst et
        exact ⟨M, L, rfl, h, sameLo.rf, q3, q4, q5⟩
      · rw [if_neg c2]; exact j16

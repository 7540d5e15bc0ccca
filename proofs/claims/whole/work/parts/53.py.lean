/-! the reference's rows of distances -/
def f96 (M M1 : zM) : Prop := (∀ b, b ≠ 96 → M1.1 b = M.1 b) ∧ M1.2 = M.2
theorem f96.rf {M : zM} : f96 M M := ⟨fun _ _ => rfl, rfl⟩
theorem f96.zI {M M1 : zM} {k : Nat} {v : Int32} (h : f96 M M1) : f96 M (zI M1 96 k v) := ⟨fun b hb => (zI_other hb).trans (h.1 b hb), h.2⟩
def gt0 (v : List Nat) (i : Nat) : Nat := v.getD i 0
theorem jd108 {F k y L : Nat} {x1 x2 x3 x6 : Int32} {M : zM} (hk : k < 60) (hy : y < 1000) (hL : L < 1000) (h : M.1 96 k = nI L) : Mod_distance_J108 F x1 x2 x3 (nI (k + 1)) x6 (nI y) M = some (0, x6, nI (k + 2), zI M 96 (k + 1) (nI (min y (L + 1)))) := by
  unfold Mod_distance_J108
  rw [show nI (k + 1) - 1 = nI k from pk_sub (b := 1) (by omega), if_pos (inb_nI (by omega) (by decide)), nI_clamp (by omega), h, nI_1]
  have j : ∀ z, Mod_distance_J142 F x1 x2 x3 (nI (k + 1)) x6 (nI z) M = some (0, x6, nI (k + 2), zI M 96 (k + 1) (nI z)) := fun z => by
    unfold Mod_distance_J142
    dsimp only [lt]
    rw [if_pos (inb_nI (by omega) (by decide)), nI_clamp (by omega), nI_1]
  by_cases c : y ≤ L + 1
  · rw [if_pos (nI_le c (by omega)), j, show min y (L + 1) = y by omega]
  · rw [if_neg (nI_ge (by omega) (by omega)), j, show min y (L + 1) = L + 1 by omega]
theorem jd87 {F k y1 x6 yy L : Nat} {x1 x2 x3 : Int32} {M : zM} (hk : k < 60) (hy : y1 + yy < 900) (h6 : x6 < 900) (hL : L < 1000) (h : M.1 96 k = nI L) : Mod_distance_J87 F x1 x2 x3 (nI (k + 1)) (nI x6) (nI y1) (nI yy) M = some (0, nI x6, nI (k + 2), zI M 96 (k + 1) (nI (min (min (y1 + yy) (x6 + 1)) (L + 1)))) := by
  unfold Mod_distance_J87
  dsimp only [lt]
  rw [nI_add, nI_1]
  by_cases c : y1 + yy ≤ x6 + 1
  · rw [if_pos (nI_le c (by omega)), jd108 hk (by omega) hL h, show min (y1 + yy) (x6 + 1) = y1 + yy by omega]
  · rw [if_neg (nI_ge (by omega) (by omega)), jd108 hk (by omega) hL h, show min (y1 + yy) (x6 + 1) = x6 + 1 by omega]
theorem dist_ok {F : Nat} {v w : List Nat} {M : zM} (hv : okW v) (hw : okW w) (h1 : ∀ j, j < v.length → M.1 92 j = nI (v.getD j 0)) (h2 : ∀ j, j < w.length → M.1 93 j = nI (w.getD j 0)) (hF : 3000 < F) : ∃ M1, Mod_distance F (nI v.length) (nI w.length) M = some (nI (lev (gt0 v) (gt0 w) v.length w.length), M1) ∧ f96 M M1 := by
  have lv := hv.1
  have lw := hw.1
  have bd : ∀ i j, i ≤ v.length → j ≤ w.length → lev (gt0 v) (gt0 w) i j < 200 := fun i j hi hj => by
    have := (lev_b (gt0 v) (gt0 w) i j).1; omega
  have k0 := loopN_inv (body := Mod_distance_B2 F (nI v.length) (nI w.length)) (I := fun i s => ∃ M1, s = (nI i, M1) ∧ f96 M M1 ∧ ∀ m, m < i → M1.1 96 m = nI m) (Qx := fun q => ∃ M1, q = (1, 0, M1) ∧ f96 M M1 ∧ ∀ m, m < w.length + 1 → M1.1 96 m = nI m) (N := w.length + 1) (F := F) (s := (0, M)) (fun i s hi hs => by
    obtain ⟨M1, rfl, r1, r2⟩ := hs
    refine Or.inl ?_
    unfold Mod_distance_B2
    dsimp only [lt]
    rw [if_neg (nI_nlt (by omega) (by omega)), if_pos (inb_nI (by omega) (by decide)), nI_clamp (by omega), nI_1]
    refine ⟨_, rfl, _, rfl, r1.zI, fun m hm => ?_⟩
    by_cases c : m = i
    · rw [c, zI_in]
    · rw [zI_ne (Or.inr c)]; exact r2 m (by omega)) (fun s hs => by
    obtain ⟨M1, rfl, r1, r2⟩ := hs
    refine ⟨(1, 0, M1), ?_, (fun q => by cases q), M1, rfl, r1, r2⟩
    unfold Mod_distance_B2
    dsimp only
    rw [if_pos (nI_lt (by omega) (by omega))]) (by omega) ⟨M, rfl, f96.rf, fun m hm => absurd hm (Nat.not_lt_zero m)⟩
  obtain ⟨q0, e0, M1, rfl, r1, r2⟩ := k0
  have inner : ∀ i M2, i < v.length → f96 M M2 → M2.1 96 0 = nI (i + 1) → (∀ m, 0 < m → m ≤ w.length → M2.1 96 m = nI (lev (gt0 v) (gt0 w) i m)) → ∃ M3, loopN (Mod_distance_B45 F (nI v.length) (nI w.length) (nI (i + 1))) F (nI (lev (gt0 v) (gt0 w) i 0), 1, M2) = some (1, 0, 0, M3) ∧ f96 M M3 ∧ ∀ m, m ≤ w.length → M3.1 96 m = nI (lev (gt0 v) (gt0 w) (i + 1) m) := by
    intro i M2 hi f2 z0 zm
    have key := loopN_inv (body := Mod_distance_B45 F (nI v.length) (nI w.length) (nI (i + 1))) (I := fun k s => ∃ M3, s = (nI (lev (gt0 v) (gt0 w) i k), nI (k + 1), M3) ∧ f96 M M3 ∧ (∀ m, m ≤ k → M3.1 96 m = nI (lev (gt0 v) (gt0 w) (i + 1) m)) ∧ ∀ m, k < m → m ≤ w.length → M3.1 96 m = nI (lev (gt0 v) (gt0 w) i m)) (Qx := fun q => ∃ M3, q = (1, 0, 0, M3) ∧ f96 M M3 ∧ ∀ m, m ≤ w.length → M3.1 96 m = nI (lev (gt0 v) (gt0 w) (i + 1) m)) (N := w.length) (F := F) (s := (nI (lev (gt0 v) (gt0 w) i 0), 1, M2)) (fun k s hk hs => by
      obtain ⟨M3, rfl, f3, a1, a2⟩ := hs
      have b1 := bd i k (by omega) (by omega)
      have b2 := bd i (k + 1) (by omega) (by omega)
      have b3 := bd (i + 1) k (by omega) (by omega)
      have c1 : M3.1 92 i = nI (v.getD i 0) := by rw [f3.1 92 (by decide)]; exact h1 i hi
      have c2 : M3.1 93 k = nI (w.getD k 0) := by rw [f3.1 93 (by decide)]; exact h2 k hk
      have l1 := isLt_32 (hv.2 _ (getD_mem hi))
      have l2 := isLt_32 (hw.2 _ (getD_mem hk))
      refine Or.inl ⟨(nI (lev (gt0 v) (gt0 w) i (k + 1)), nI (k + 2), zI M3 96 (k + 1) (nI (lev (gt0 v) (gt0 w) (i + 1) (k + 1)))), ?_, _, rfl, f3.zI, fun m hm => ?_, fun m hm hm2 => ?_⟩
      · unfold Mod_distance_B45
        dsimp only [lt]
        rw [if_neg (nI_nlt (by omega) (by omega)), if_pos (inb_nI (by omega) (by decide)), nI_clamp (by omega), a2 (k + 1) (by omega) (by omega), show nI (i + 1) - 1 = nI i from pk_sub (b := 1) (by omega), show nI (k + 1) - 1 = nI k from pk_sub (b := 1) (by omega), if_pos (inb_nI (by omega) (by decide)), if_pos (inb_nI (by omega) (by decide)), nI_clamp (by omega), nI_clamp (by omega), c1, c2, lev_s]
        by_cases c : gt0 v i = gt0 w k
        · rw [if_pos (show nI (v.getD i 0) = nI (w.getD k 0) from congrArg nI c), if_pos c]
          exact jd87 (yy := 0) (by omega) (by omega) (by omega) (by omega) (a1 k (Nat.le_refl _))
        · rw [if_neg (show ¬ nI (v.getD i 0) = nI (w.getD k 0) from fun q => c ((nI_eq (a := v.getD i 0) (b := w.getD k 0) (by omega) (by omega)).mp q)), if_neg c]
          exact jd87 (yy := 1) (by omega) (by omega) (by omega) (by omega) (a1 k (Nat.le_refl _))
      · by_cases c : m = k + 1
        · rw [c, zI_in]
        · rw [zI_ne (Or.inr c)]; exact a1 m (by omega)
      · rw [zI_ne (Or.inr (by omega))]; exact a2 m (by omega) hm2) (fun s hs => by
      obtain ⟨M3, rfl, f3, a1, a2⟩ := hs
      refine ⟨(1, 0, 0, M3), ?_, (fun q => by cases q), M3, rfl, f3, a1⟩
      unfold Mod_distance_B45
      dsimp only
      rw [if_pos (nI_lt (by omega) (by omega))]) (by omega) ⟨M2, rfl, f2, fun m hm => by rw [show m = 0 by omega, z0, lev_z], fun m hm hm2 => zm m hm hm2⟩
    obtain ⟨q, e, M3, rfl, r⟩ := key
    exact ⟨M3, e, r⟩
  have k1 := loopN_inv (body := Mod_distance_B22 F (nI v.length) (nI w.length)) (I := fun i s => ∃ M2, s = (nI (i + 1), M2) ∧ f96 M M2 ∧ ∀ m, m ≤ w.length → M2.1 96 m = nI (lev (gt0 v) (gt0 w) i m)) (Qx := fun q => ∃ M2, q = (1, 0, M2) ∧ f96 M M2 ∧ ∀ m, m ≤ w.length → M2.1 96 m = nI (lev (gt0 v) (gt0 w) v.length m)) (N := v.length) (F := F) (s := (1, M1)) (fun i s hi hs => by
    obtain ⟨M2, rfl, f2, a1⟩ := hs
    obtain ⟨M3, e3, f3, a3⟩ := inner i (zI M2 96 0 (nI (i + 1))) hi f2.zI zI_in (fun m hm hm2 => by rw [zI_ne (Or.inr (by omega))]; exact a1 m hm2)
    refine Or.inl ⟨(nI (i + 2), M3), ?_, M3, rfl, f3, a3⟩
    unfold Mod_distance_B22
    dsimp only [lt]
    rw [if_neg (nI_nlt (by omega) (by omega)), if_pos (show inb 0 61 = true by decide), show (0 : Int32).toNatClampNeg = 0 by decide, a1 0 (by omega), e3, Option.bind_some]
    dsimp only
    rw [if_pos rfl, nI_1]) (fun s hs => by
    obtain ⟨M2, rfl, f2, a1⟩ := hs
    refine ⟨(1, 0, M2), ?_, (fun q => by cases q), M2, rfl, f2, a1⟩
    unfold Mod_distance_B22
    dsimp only
    rw [if_pos (nI_lt (by omega) (by omega))]) (by omega) ⟨M1, rfl, r1, fun m hm => by rw [r2 m (by omega), lev_0]⟩
  obtain ⟨q1, e1, M2, rfl, f2, a2⟩ := k1
  refine ⟨M2, ?_, f2⟩
  unfold Mod_distance
  rw [e0, Option.bind_some]
  dsimp only
  rw [if_pos rfl, e1, Option.bind_some]
  dsimp only
  rw [if_pos rfl, if_pos (inb_nI (by omega) (by decide)), nI_clamp (by omega), a2 _ (Nat.le_refl _)]

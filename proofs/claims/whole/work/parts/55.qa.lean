theorem to_in {F a i : Nat} {x2 x10 x9 : Int32} {P N : Int64} {v w : List Nat} {M0 M : zM} (hv : okW v) (hw : okW w) (hi : i < 5) (hp : Pl v v.length M0 M) (hd : Dc v w (12 * i) P N x9) (hl : 12 * i ≤ w.length) (hF : 3000 < F) : loopN (Dis_to_B56 F a x2 (botB v.length) x10 (pk w i)) F (P, N, x9, 55, M) = some (1, 0, 0, nI (lev (gt0 v) (gt0 w) v.length w.length), 0, M) ∨ ∃ P' N' x9', loopN (Dis_to_B56 F a x2 (botB v.length) x10 (pk w i)) F (P, N, x9, 55, M) = some (2, P', N', x9', 0, M) ∧ Dc v w (12 * (i + 1)) P' N' x9' ∧ 12 * (i + 1) ≤ w.length := by
  have lw := hw.1
  have key := loopN_inv (body := Dis_to_B56 F a x2 (botB v.length) x10 (pk w i)) (I := fun j s => ∃ P N x9, s = (P, N, x9, 55 - nI (5 * j), M) ∧ Dc v w (12 * i + j) P N x9 ∧ 12 * i + j ≤ w.length) (Qx := fun q => q = (1, 0, 0, nI (lev (gt0 v) (gt0 w) v.length w.length), 0, M) ∨ ∃ P' N' x9', q = (2, P', N', x9', 0, M) ∧ Dc v w (12 * (i + 1)) P' N' x9' ∧ 12 * (i + 1) ≤ w.length) (N := 12) (F := F) (s := (P, N, x9, 55, M)) (fun j s hj hs => by
    obtain ⟨P, N, x9, rfl, d, hl⟩ := hs
    have hs := sign_ok (F := F) (i := i) (M := M) hw.2 hj
    rw [← (dn5 j hj).2] at hs
    have h13 : ¬ (55 - nI (5 * j)) < 0 := by rw [(dn5 j hj).2]; exact nI_pos (by omega)
    by_cases c : 12 * i + j < w.length
    · obtain ⟨P', N', x9', e, d'⟩ := to_step (F := F) (a := a) (x2 := x2) (x10 := x10) (x13 := 55 - nI (5 * j)) (x11 := pk w i) hv hw c hp d h13 hs
      rw [(dn5 j hj).1] at e
      exact Or.inl ⟨_, e, P', N', x9', rfl, d', by omega⟩
    · refine Or.inr ⟨_, ?_, (fun q => by cases q), Or.inl rfl⟩
      unfold Dis_to_B56
      dsimp only [lt]
      rw [if_neg h13, hs, Option.bind_some]
      dsimp only
      rw [sgA_out (by omega), if_pos (show nI 0 = 0 from rfl), d.2, show 12 * i + j = w.length by omega]) (fun s hs => by
    obtain ⟨P, N, x9, rfl, d, hl⟩ := hs
    refine ⟨_, ?_, (fun q => by cases q), Or.inr ⟨P, N, x9, rfl, d, hl⟩⟩
    unfold Dis_to_B56
    dsimp only
    rw [if_pos (by decide)]) (by omega) ⟨P, N, x9, rfl, hd, hl⟩
  obtain ⟨q, e, rfl | ⟨P', N', x9', rfl, r⟩⟩ := key
  · exact Or.inl e
  · exact Or.inr ⟨P', N', x9', e, r⟩
theorem to_ok {F a n : Nat} {v w : List Nat} {M0 M : zM} (hv : okW v) (hw : okW w) (hP : Pl v v.length M0 M) (hN : 5 * n + 5 ≤ zN (a + 1)) (hN2 : zN (a + 1) < 2 ^ 31) (hp : ∀ i, i < 5 → M.2 (a + 1) (5 * n + i) = pk w i) (hF : 3000 < F) : Dis_to F a (nI n) M = some (nI (lev (gt0 v) (gt0 w) v.length w.length), M) := by
  have lw := hw.1
  have lv := hv.1
  have key := loopN_inv (body := Dis_to_B37 F a (nI n) (botB v.length)) (I := fun i s => ∃ P N x9, s = (P, N, x9, nI i, M) ∧ Dc v w (12 * i) P N x9 ∧ 12 * i ≤ w.length) (Qx := fun q => q = (1, 0, 0, nI (lev (gt0 v) (gt0 w) v.length w.length), 0, M) ∨ q = (2, 0, 0, nI (lev (gt0 v) (gt0 w) v.length w.length), 0, M)) (N := 5) (F := F) (s := (-1, 0, M.1 59 1, 0, M)) (fun i s hi hs => by
    obtain ⟨P, N, x9, rfl, d, hl⟩ := hs
    unfold Dis_to_B37
    dsimp only [lt]
    rw [if_neg (show ¬ (5 : Int32) ≤ nI i from nI_ge (b := 5) hi (by decide)), signs_ok (by omega) hN2, Option.bind_some]
    dsimp only
    rw [hp i hi]
    rcases to_in (F := F) (a := a) (x2 := nI n) (x10 := nI i) hv hw hi hP d hl hF with e | ⟨P', N', x9', e, r1, r2⟩
    · rw [e, Option.bind_some]
      exact Or.inr ⟨_, rfl, (fun q => by cases q), Or.inl rfl⟩
    · rw [e, Option.bind_some]
      refine Or.inl ⟨(P', N', x9', nI (i + 1), M), ?_, P', N', x9', rfl, r1, r2⟩
      dsimp only
      rw [if_neg (by decide), if_pos rfl, nI_1]) (fun s hs => by
    obtain ⟨P, N, x9, rfl, d, hl⟩ := hs
    refine ⟨_, ?_, (fun q => by cases q), Or.inr rfl⟩
    unfold Dis_to_B37
    dsimp only
    rw [if_pos (show (5 : Int32) ≤ nI 5 by decide), d.2, show w.length = 12 * 5 by omega]) (by omega) ⟨-1, 0, _, rfl, ⟨fun i hi => by
      dsimp only
      rw [bt_m1 hi, bt_0]
      have z1 : lev (gt0 v) (gt0 w) i (12 * 0) = i := lev_z (gt0 v) (gt0 w) i
      have z2 : lev (gt0 v) (gt0 w) (i + 1) (12 * 0) = i + 1 := lev_z (gt0 v) (gt0 w) (i + 1)
      exact ⟨(decide_eq_true (by omega)).symm, (decide_eq_false (by omega)).symm, by omega, by omega⟩, by rw [hP.2.2.1, show 12 * 0 = 0 from rfl, lev_z]⟩, by omega⟩
  obtain ⟨q, e, hq⟩ := key
  have j26 : Dis_to_J26 F a (nI n) (-1) 0 (botB v.length) M = some (nI (lev (gt0 v) (gt0 w) v.length w.length), M) := by
    unfold Dis_to_J26
    dsimp only [lt]
    rw [e, Option.bind_some]
    rcases hq with rfl | rfl <;> rfl
  unfold Dis_to
  rw [hP.2.2.1]
  unfold botB at j26
  by_cases c : v.length = 0
  · rw [if_pos c] at j26
    rw [if_pos (show nI v.length ≤ 0 from nI_le (b := 0) (by omega) (by omega)), j26]
  · rw [if_neg c] at j26
    rw [if_neg (show ¬ nI v.length ≤ 0 from nI_ge (a := 0) (by omega) (by omega)), show nI v.length - 1 = nI (v.length - 1) from pk_sub (b := 1) (by omega), j26]
/-! far -/
def farN (T : Tn) (n m : Nat) : Nat := lev (gt0 (runW (nmW T n))) (gt0 (runW (nmW T m))) (runW (nmW T n)).length (runW (nmW T m)).length
theorem okW_run {w : List Nat} (h : okW w) : okW (runW w) := ⟨by have := runW_len w; have := h.1; omega, runW_lt h.2⟩
theorem XN.at {a n : Nat} {T : Tn} {M : zM} (h : XN a n (T.2 n) M) (hs : (T.2 n).isSome = true) : okW (nmW T n) ∧ M.1 (a + 6) n = nI (runW (nmW T n)).length ∧ ∀ i, i < 5 → M.2 (a + 3 + 1) (5 * n + i) = pk (runW (nmW T n)) i := by
  obtain ⟨⟨w, b, d⟩, e⟩ := Option.isSome_iff_exists.mp hs
  rw [e] at h
  have n1 : nmW T n = w := by unfold nmW; rw [e]
  rw [n1]
  exact ⟨h.1, h.2.2.2.2.2.1, h.2.2.2.2.2.2.2.2.2⟩
theorem MN.at {j n : Nat} {T : Tn} {M : zM} (h : MN j (T.2 n) M) (hs : (T.2 n).isSome = true) : M.1 74 j = nI (nmW T n).length ∧ rnO (T.2 n) = runW (nmW T n) := by
  obtain ⟨⟨w, b, d⟩, e⟩ := Option.isSome_iff_exists.mp hs
  rw [e] at h ⊢
  have n1 : nmW T n = w := by unfold nmW; rw [e]
  rw [n1]
  exact ⟨h.1, rfl⟩
/-- only the measuring cells have changed -/
def f59 (M M1 : zM) : Prop := (∀ b, b ≠ 59 → M1.1 b = M.1 b) ∧ ∀ b, b ≠ 60 → M1.2 b = M.2 b
theorem Pl.f {w : List Nat} {n : Nat} {M M1 : zM} (h : Pl w n M M1) : f59 M M1 := ⟨h.1, h.2.1⟩
theorem f59.rx {S : Sp} {M M1 : zM} (h : f59 M M1) (r : RX S M) : RX S M1 := r.keep (fun b h1 h2 => ⟨h.1 b (by omega), h.2 b (by omega)⟩)
theorem f59.hi {M M1 : zM} (h : f59 M M1) : sameHi M M1 := fun b hb => ⟨h.1 b (by omega), h.2 b (by omega)⟩
theorem f59.tr {M M1 M2 : zM} (h : f59 M M1) (h2 : f59 M1 M2) : f59 M M2 := ⟨fun b hb => (h2.1 b hb).trans (h.1 b hb), fun b hb => (h2.2 b hb).trans (h.2 b hb)⟩
theorem measX {F t n : Nat} {T : Tn} {M : zM} (h : ∀ n, n < 1000 → XN (14 + 10 * t) n (T.2 n) M) (ht : t < 3) (hn : n < 1000) (hs : (T.2 n).isSome = true) (hF : 3000 < F) : ∃ M1, Ton_measureFrom F (14 + 10 * t) (nI n) M = some ((), M1) ∧ Pl (runW (nmW T n)) (runW (nmW T n)).length M M1 := by
  obtain ⟨k1, -, k2⟩ := (h n hn).at hs
  have hz := (zN_tn ht).2
  obtain ⟨M1, e, r⟩ := from_ok (F := F) (a := 14 + 10 * t + 3) (n := n) (okW_run k1) (by omega) (by omega) (by omega) k2 hF
  refine ⟨M1, ?_, r⟩
  unfold Ton_measureFrom
  rw [e, Option.bind_some]
theorem farX {F t n : Nat} {T : Tn} {v : List Nat} {M0 M : zM} (hv : okW v) (hP : Pl v v.length M0 M) (h : XN (14 + 10 * t) n (T.2 n) M) (ht : t < 3) (hn : n < 1000) (hs : (T.2 n).isSome = true) (hF : 3000 < F) : Ton_farFrom F (14 + 10 * t) (nI n) M = some (nI (lev (gt0 v) (gt0 (runW (nmW T n))) v.length (runW (nmW T n)).length), M) := by
  obtain ⟨k1, -, k2⟩ := h.at hs
  have hz := (zN_tn ht).2
  unfold Ton_farFrom
  rw [to_ok hv (okW_run k1) hP (by omega) (by omega) k2 hF, Option.bind_some]
/-- only the reference's rows 92, 93, 96 have changed -/
def f9x (M M1 : zM) : Prop := (∀ b, b ≠ 92 → b ≠ 93 → b ≠ 96 → M1.1 b = M.1 b) ∧ M1.2 = M.2
theorem f9x.rf {M : zM} : f9x M M := ⟨fun _ _ _ _ => rfl, rfl⟩
theorem f9x.tr {M M1 M2 : zM} (h : f9x M M1) (h2 : f9x M1 M2) : f9x M M2 := ⟨fun b b1 b2 b3 => (h2.1 b b1 b2 b3).trans (h.1 b b1 b2 b3), h2.2.trans h.2⟩
theorem f9x.mn {M M1 : zM} {j : Nat} {q : Option Nm} (h : f9x M M1) (r : MN j q M) : MN j q M1 := r.same (fun b b1 b2 => ⟨h.1 b (by omega) (by omega) (by omega), by rw [h.2]⟩)
theorem f9x.lo {M M1 : zM} (h : f9x M M1) : sameLo M M1 := fun b hb => ⟨h.1 b (by omega) (by omega) (by omega), by rw [h.2]⟩
theorem f9x.rm {S : Sp} {M M1 : zM} (h : f9x M M1) (r : RM S M) : RM S M1 := by
  obtain ⟨h1, h2, h3, h4, h5, h6, h7⟩ := r
  have e63 := h.1 63 (by decide) (by decide) (by decide)
  refine ⟨by rw [e63]; exact h1, by rw [h.1 79 (by decide) (by decide) (by decide)]; exact h2, by rw [e63]; exact h3, fun t ht => ⟨by rw [h.1 64 (by decide) (by decide) (by decide)]; exact (h4 t ht).1, fun n hn => h.mn ((h4 t ht).2 n hn)⟩, by rw [e63]; exact h5, by rw [h.1 95 (by decide) (by decide) (by decide)]; exact h6, ?_, h7.2.same (h.1 87 (by decide) (by decide) (by decide))⟩
  rw [e63, h.1 91 (by decide) (by decide) (by decide)]; exact h7.1
theorem copyA.f9 {M M1 : zM} {a : Nat} {v : List Nat} (h : copyA M M1 a v) (ha : a = 92 ∨ a = 93) : f9x M M1 := ⟨fun b b1 b2 _ => h.1 b (by omega), h.2.1⟩
theorem f96.f9 {M M1 : zM} (h : f96 M M1) : f9x M M1 := ⟨fun b _ _ b3 => h.1 b b3, h.2⟩
theorem farM {F t n m : Nat} {T : Tn} {M : zM} (h : ∀ n, n < 1000 → MN (1000 * t + n) (T.2 n) M) (hok : ∀ n, n < 1000 → ∀ w b d, T.2 n = some (w, b, d) → okW w) (ht : t < 3) (hn : n < 1000) (hm : m < 1000) (sn : (T.2 n).isSome = true) (sm : (T.2 m).isSome = true) (hF : 3000 < F) : ∃ M1, Mod_farOf F (nI t) (nI n) (nI m) M = some (nI (farN T n m), M1) ∧ f9x M M1 := by
  have o1 : ∀ n, n < 1000 → ∀ z, T.2 n = some z → okW z.1 := fun n hn z e => hok n hn z.1 z.2.1 z.2.2 e
  obtain ⟨M1, e1, c1⟩ := runOf_ok (F := F) (a := 92) (h n hn) (o1 n hn) ht hn (Or.inl rfl) hF
  have f1 := c1.f9 (Or.inl rfl)
  obtain ⟨M2, e2, c2⟩ := runOf_ok (F := F) (a := 93) (f1.mn (h m hm)) (o1 m hm) ht hm (Or.inr rfl) hF
  have f2 := c2.f9 (Or.inr rfl)
  rw [((h n hn).at sn).2] at e1 c1
  rw [((h m hm).at sm).2] at e2 c2
  have ok : ∀ n, n < 1000 → (T.2 n).isSome = true → okW (runW (nmW T n)) := fun n hn sn => by
    obtain ⟨⟨w, b, d⟩, e⟩ := Option.isSome_iff_exists.mp sn
    have n1 : nmW T n = w := by unfold nmW; rw [e]
    rw [n1]; exact okW_run (hok n hn w b d e)
  obtain ⟨M3, e3, c3⟩ := dist_ok (F := F) (M := M2) (ok n hn sn) (ok m hm sm) (fun j hj => by rw [c2.1 92 (by decide)]; exact c1.2.2 j hj) c2.2.2 hF
  refine ⟨M3, ?_, (f1.tr f2).tr c3.f9⟩
  unfold Mod_farOf
  rw [e1, Option.bind_some]
  dsimp only
  rw [e2, Option.bind_some]
  dsimp only
  rw [e3, Option.bind_some]
  rfl

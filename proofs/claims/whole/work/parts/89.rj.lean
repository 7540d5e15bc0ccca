/-! the reference makes names: a name is put -/
def fK (a : Nat) (M M1 : zM) : Prop := (∀ b, b ≠ 63 → b ≠ 74 → b ≠ 76 → b ≠ 77 → b ≠ 78 → b ≠ 89 → M1.1 b = M.1 b) ∧ (∀ k, k ≠ 33 → M1.1 63 k = M.1 63 k) ∧ (∀ j, j ≠ a → M1.1 74 j = M.1 74 j ∧ M1.1 76 j = M.1 76 j ∧ M1.1 77 j = M.1 77 j ∧ M1.1 78 j = M.1 78 j) ∧ (∀ b, b ≠ 75 → M1.2 b = M.2 b) ∧ ∀ k, (k < 8 * a ∨ 8 * a + 8 ≤ k) → M1.2 75 k = M.2 75 k
theorem fMk.k {a : Nat} {M M1 : zM} (h : fMk M M1) : fK a M M1 := ⟨fun b b1 _ _ _ _ b6 => h.1 b b1 b6, h.2.2, fun j _ => ⟨by rw [h.1 74 (by decide) (by decide)], by rw [h.1 76 (by decide) (by decide)], by rw [h.1 77 (by decide) (by decide)], by rw [h.1 78 (by decide) (by decide)]⟩, fun b _ => by rw [h.2.1], fun k _ => by rw [h.2.1]⟩
theorem zero_ok {F a : Nat} {x1 x2 x4 : Int32} {M : zM} (ha : a < 3000) (hF : 3000 < F) : ∃ M1, loopN (Mod_makeName_B172 F x1 x2 x4 (nI a)) F (nI (8 * a), M) = some (1, 0, M1) ∧ M1.1 = M.1 ∧ (∀ b, b ≠ 75 → M1.2 b = M.2 b) ∧ (∀ k, (k < 8 * a ∨ 8 * a + 8 ≤ k) → M1.2 75 k = M.2 75 k) ∧ ∀ s, s < 8 → M1.2 75 (8 * a + s) = 0 := by
  have i8 : (8 : Int32) * nI a + 8 = nI (8 * a + 8) := by rw [show (8 : Int32) * nI a = nI (8 * a) from by rw [show (8 : Int32) = nI 8 from rfl, pk_mul]]; exact nI_add _ 8
  have key := loopN_inv (body := Mod_makeName_B172 F x1 x2 x4 (nI a)) (I := fun i z => ∃ M1, z = (nI (8 * a + i), M1) ∧ M1.1 = M.1 ∧ (∀ b, b ≠ 75 → M1.2 b = M.2 b) ∧ (∀ k, (k < 8 * a ∨ 8 * a + 8 ≤ k) → M1.2 75 k = M.2 75 k) ∧ ∀ s, s < i → M1.2 75 (8 * a + s) = 0) (Qx := fun q => ∃ M1, q = (1, 0, M1) ∧ M1.1 = M.1 ∧ (∀ b, b ≠ 75 → M1.2 b = M.2 b) ∧ (∀ k, (k < 8 * a ∨ 8 * a + 8 ≤ k) → M1.2 75 k = M.2 75 k) ∧ ∀ s, s < 8 → M1.2 75 (8 * a + s) = 0) (N := 8) (F := F) (s := (nI (8 * a), M)) (fun i z hi hz => by
    obtain ⟨M1, rfl, f1, f2, f3, f4⟩ := hz
    refine Or.inl ?_
    unfold Mod_makeName_B172
    dsimp only [lt]
    rw [i8, if_neg (nI_ge (by omega) (by omega)), if_pos (inb_nI (by omega) (by decide)), nI_clamp (by omega), nI_1]
    refine ⟨_, rfl, _, rfl, f1, fun b hb => (zL_other hb).trans (f2 b hb), fun k hk => ?_, fun s hs => ?_⟩
    · rw [zL_ne (Or.inr (by omega))]; exact f3 k hk
    · by_cases c : s = i
      · rw [c, zL_in]
      · rw [zL_ne (Or.inr (by omega))]; exact f4 s (by omega)) (fun z hz => by
    obtain ⟨M1, rfl, f1, f2, f3, f4⟩ := hz
    refine ⟨(1, 0, M1), ?_, (fun q => by cases q), M1, rfl, f1, f2, f3, f4⟩
    unfold Mod_makeName_B172
    dsimp only
    rw [i8, if_pos (nI_le (Nat.le_refl _) (by omega))]) (by omega) ⟨M, rfl, rfl, fun _ _ => rfl, fun _ _ => rfl, fun s hs => absurd hs (Nat.not_lt_zero s)⟩
  obtain ⟨q, e, M1, rfl, r⟩ := key
  exact ⟨M1, e, r⟩
theorem bytes_ok {F a : Nat} {x1 x2 x4 : Int32} {w : List Nat} {M : zM} (ha : a < 3000) (hw : okW w) (h33 : M.1 63 33 = nI w.length) (h89 : ∀ x, x < w.length → M.1 89 x = nI (w.getD x 0)) (h0 : ∀ s, s < 8 → M.2 75 (8 * a + s) = 0) (hF : 3000 < F) : ∃ M1, loopN (Mod_makeName_B205 F x1 x2 x4 (nI a)) F (0, 0, M) = some (1, nI (runW w).length, 0, M1) ∧ M1.1 = M.1 ∧ (∀ b, b ≠ 75 → M1.2 b = M.2 b) ∧ (∀ k, (k < 8 * a ∨ 8 * a + 8 ≤ k) → M1.2 75 k = M.2 75 k) ∧ ∀ x, x < w.length → mB M1 a x = nI (w.getD x 0) := by
  have lw := hw.1
  have wb : ∀ i, w.getD i 0 < 256 := fun i => by
    rcases Nat.lt_or_ge i w.length with q | q
    · have := isLt_32 (hw.2 _ (getD_mem q)); omega
    · rw [List.getD_eq_getElem?_getD, List.getElem?_eq_none q]; decide
  have key := loopN_inv (body := Mod_makeName_B205 F x1 x2 x4 (nI a)) (I := fun x z => ∃ M1, z = (nI (runW (w.take x)).length, nI x, M1) ∧ M1.1 = M.1 ∧ (∀ b, b ≠ 75 → M1.2 b = M.2 b) ∧ (∀ k, (k < 8 * a ∨ 8 * a + 8 ≤ k) → M1.2 75 k = M.2 75 k) ∧ ∀ s, s < 8 → M1.2 75 (8 * a + s) = lN (bvS w s x 8)) (Qx := fun q => ∃ M1, q = (1, nI (runW w).length, 0, M1) ∧ M1.1 = M.1 ∧ (∀ b, b ≠ 75 → M1.2 b = M.2 b) ∧ (∀ k, (k < 8 * a ∨ 8 * a + 8 ≤ k) → M1.2 75 k = M.2 75 k) ∧ ∀ s, s < 8 → M1.2 75 (8 * a + s) = lN (bvS w s w.length 8)) (N := w.length) (F := F) (s := (0, 0, M)) (fun x z hx hz => by
    obtain ⟨M1, rfl, f1, f2, f3, f4⟩ := hz
    have hm := isLt_32 (hw.2 _ (getD_mem hx))
    have e1 : nI x / 8 = nI (x / 8) := pk_div (a := x) (d := 8) (by omega) (by decide) (by decide)
    have e2 : nI x - nI x / 8 * 8 = nI (x % 8) := pk_rem (a := x) (d := 8) (by omega) (by decide) (by decide)
    have e3 : (8 : Int32) * nI a + nI (x / 8) = nI (8 * a + x / 8) := by rw [show (8 : Int32) = nI 8 from rfl, pk_mul, nI_add]
    have e4 : (8 : Int32) * nI (x % 8) = nI (8 * (x % 8)) := by rw [show (8 : Int32) = nI 8 from rfl, pk_mul]
    have xd : 8 * (x / 8) + x % 8 = x := by omega
    have V1 : bvS w (x / 8) x 8 = bvS w (x / 8) x (x % 8) := bvS_z 8 (by omega) (fun y a1 a2 => by omega)
    have V2 : bvS w (x / 8) (x + 1) 8 = bvS w (x / 8) x 8 + w.getD x 0 * 256 ^ (x % 8) := by
      rw [bvS_z (j := x % 8 + 1) 8 (by omega) (fun y a1 a2 => by omega), bvS_s, if_pos (by omega), xd, V1, bvS_eq (x := x + 1) (x' := x) (x % 8) (fun y hy => by omega)]
    have ob := or_byte (V := bvS w (x / 8) x 8) (b := w.getD x 0) (y := x % 8) (by rw [V1]; exact bvS_lt wb _) (wb x) (by omega)
    rw [← V2] at ob
    refine Or.inl ?_
    unfold Mod_makeName_B205
    dsimp only [lt]
    rw [f1, h33, if_neg (nI_ge hx (by omega)), e2, e1, e3, e4, if_pos (inb_nI (by omega) (by decide)), if_pos (inb_nI (by omega) (by decide)), nI_clamp (by omega), nI_clamp (by omega), zL_f, f1, h89 x hx, f4 (x / 8) (by omega), ob, nI_1, nI_1, Int32.add_zero]
    have nx : ∀ v : Int32, v = nI (runW (w.take (x + 1))).length → ∃ s', some ((0 : Nat), v, nI (x + 1), zL M1 75 (8 * a + x / 8) (lN (bvS w (x / 8) (x + 1) 8))) = some (0, s') ∧ ∃ M1, s' = (nI (runW (w.take (x + 1))).length, nI (x + 1), M1) ∧ M1.1 = M.1 ∧ (∀ b, b ≠ 75 → M1.2 b = M.2 b) ∧ (∀ k, (k < 8 * a ∨ 8 * a + 8 ≤ k) → M1.2 75 k = M.2 75 k) ∧ ∀ s, s < 8 → M1.2 75 (8 * a + s) = lN (bvS w s (x + 1) 8) := fun v hv => by
      subst hv
      refine ⟨_, rfl, _, rfl, f1, fun b hb => (zL_other hb).trans (f2 b hb), fun k hk => ?_, fun s hs => ?_⟩
      · rw [zL_ne (Or.inr (by omega))]; exact f3 k hk
      · by_cases c : s = x / 8
        · rw [c, zL_in]
        · rw [zL_ne (Or.inr (by omega)), f4 s hs, bvS_eq (x := x) (x' := x + 1) 8 (fun y hy => by omega)]
    have rs := runW_s hx
    by_cases c : w.getD x 0 = 32
    · rw [if_pos (show nI (w.getD x 0) = 32 by rw [c]; rfl)]
      rw [if_pos c] at rs
      exact nx _ (by rw [rs])
    · rw [if_neg (show ¬ nI (w.getD x 0) = 32 from fun q => c ((nI_eq (b := 32) (by omega) (by decide)).mp q))]
      rw [if_neg c] at rs
      exact nx _ (by rw [rs, List.length_append]; rfl)) (fun z hz => by
    obtain ⟨M1, rfl, f1, f2, f3, f4⟩ := hz
    rw [List.take_length]
    refine ⟨_, ?_, (fun q => by cases q), M1, rfl, f1, f2, f3, f4⟩
    unfold Mod_makeName_B205
    dsimp only
    rw [f1, h33, if_pos (nI_le (Nat.le_refl _) (by omega))]) (by omega) ⟨M, rfl, rfl, fun _ _ => rfl, fun _ _ => rfl, fun s hs => by rw [h0 s hs, bvS_z (j := 0) 8 (by omega) (fun y _ _ => by omega)]; rfl⟩
  obtain ⟨q, e, M1, rfl, f1, f2, f3, f4⟩ := key
  refine ⟨M1, e, f1, f2, f3, fun x hx => ?_⟩
  unfold mB
  rw [f4 (x / 8) (by omega), sr_and (by omega), bvS_dig wb 8 (by omega), show 8 * (x / 8) + x % 8 = x by omega, if_pos hx]
theorem mk_ok {F t i n : Nat} {C : List Cls} {N : Nat → Option Nm} {r : List Nat × Nat} {M : zM} (hC : CT t C M) (ht : t < 3) (h12 : C.length ≤ 12) (hi : i < C.length) (hc : okCl (cg C i)) (hN : ∀ m, m < 1000 → MN (1000 * t + m) (N m) M) (hok : ∀ m, m < 1000 → ∀ x, N m = some x → okW x.1 ∧ x.2.2 ≤ 8) (hn : n < 1000) (hr : bldP N n (cg C i).2.2.1 (cg C i).2.2.2 ([], 0) = some r) (hL : ∀ k ∈ r.1, isLt k) (hF : 3000 < F) : ∃ M1, Mod_makeName F (nI t) (nI (12 * t + i)) (nI n) M = some (if r.1.length ≤ 60 ∧ r.2 < 8 then 1 else 2, M1) ∧ fK (1000 * t + n) M M1 ∧ (r.1.length ≤ 60 ∧ r.2 < 8 → MN (1000 * t + n) (some (r.1, i, r.2 + 1)) M1) ∧ (¬ (r.1.length ≤ 60 ∧ r.2 < 8) → fMk M M1) := by
  obtain ⟨M1, k1, f1, m1, l488, d8⟩ := build_ok (F := F) hC ht h12 hi hc hN hok hn hr hF
  have i8 : (8 : Int32) * nI (12 * t + i) = nI (8 * (12 * t + i)) := by rw [show (8 : Int32) = nI 8 from rfl, pk_mul]
  unfold Mod_makeName
  dsimp only [lt]
  rw [i8, k1, Option.bind_some]
  dsimp only
  rw [if_pos rfl, ix_t, m1.1]
  by_cases c1 : r.1.length ≤ 60
  · rw [if_neg (show ¬ (60 : Int32) < nI r.1.length from nI_nlt (a := 60) c1 (by omega))]
    by_cases c2 : r.2 < 8
    · rw [if_pos (show nI r.2 < 8 from nI_lt (b := 8) c2 (by decide)), if_pos ⟨c1, c2⟩, show (8 : Int32) * nI (1000 * t + n) = nI (8 * (1000 * t + n)) from by rw [show (8 : Int32) = nI 8 from rfl, pk_mul]]
      have a3 : 1000 * t + n < 3000 := by omega
      obtain ⟨M2, z1, z2, z3, z4, z5⟩ := zero_ok (F := F) (a := 1000 * t + n) (x1 := nI t) (x2 := nI (12 * t + i)) (x4 := nI r.2) (M := M1) a3 hF
      obtain ⟨M3, y1, y2, y3, y4, y5⟩ := bytes_ok (F := F) (a := 1000 * t + n) (x1 := nI t) (x2 := nI (12 * t + i)) (x4 := nI r.2) (w := r.1) (M := M2) a3 ⟨c1, hL⟩ (by rw [z2]; exact m1.1) (fun x hx => by rw [z2]; exact m1.2 x hx) z5 hF
      have e3 : M3.1 = M1.1 := y2.trans z2
      rw [z1, Option.bind_some]
      dsimp only
      rw [if_pos rfl, y1, Option.bind_some]
      dsimp only
      rw [if_pos rfl, if_pos (inb_nI a3 (by decide)), nI_clamp (by omega), e3, m1.1, nI_1, show nI (12 * t + i) - 12 * nI t = nI i from by rw [show (12 : Int32) * nI t = nI (12 * t) from by rw [show (12 : Int32) = nI 12 from rfl, pk_mul], pk_sub (by omega)]; congr 1; omega]
      have fk1 : fK (1000 * t + n) M M1 := f1.k
      refine ⟨_, rfl, ⟨fun b b1 b2 b3 b4 b5 b6 => ?_, fun k hk => ?_, fun j hj => ?_, fun b hb => ?_, fun k hk => ?_⟩, fun _ => ⟨?_, ?_, ?_, ?_, fun x hx => ?_⟩, fun q => absurd ⟨c1, c2⟩ q⟩
      · rw [zI_other b5, zI_other b4, zI_other b3, zI_other b2, e3]; exact f1.1 b b1 b6
      · rw [zI_other (by decide), zI_other (by decide), zI_other (by decide), zI_other (by decide), e3]; exact f1.2.2 k hk
      · obtain ⟨v1, v2, v3, v4⟩ := fk1.2.2.1 j hj
        refine ⟨?_, ?_, ?_, ?_⟩
        · rw [zI_other (by decide), zI_other (by decide), zI_other (by decide), zI_ne (Or.inr hj), e3]; exact v1
        · rw [zI_other (by decide), zI_other (by decide), zI_ne (Or.inr hj), zI_other (by decide), e3]; exact v2
        · rw [zI_other (by decide), zI_ne (Or.inr hj), zI_other (by decide), zI_other (by decide), e3]; exact v3
        · rw [zI_ne (Or.inr hj), zI_other (by decide), zI_other (by decide), zI_other (by decide), e3]; exact v4
      · show M3.2 b = M.2 b
        rw [y3 b hb, z3 b hb, f1.2.1]
      · show M3.2 75 k = M.2 75 k
        rw [y4 k hk, z4 k hk, f1.2.1]
      · rw [zI_other (by decide), zI_other (by decide), zI_other (by decide), zI_in]
      · rw [zI_other (by decide), zI_other (by decide), zI_in]
      · rw [zI_other (by decide), zI_in]
      · rw [zI_in]
      · exact y5 x hx
    · rw [if_neg (show ¬ nI r.2 < 8 from nI_nlt (b := 8) (by omega) (by omega)), if_neg (fun q => c2 q.2)]
      exact ⟨M1, rfl, f1.k, fun q => absurd q.2 c2, fun _ => f1⟩
  · rw [if_pos (show (60 : Int32) < nI r.1.length from nI_lt (a := 60) (by omega) (by omega)), if_neg (fun q => c1 q.1)]
    exact ⟨M1, rfl, f1.k, fun q => absurd q.1 c1, fun _ => f1⟩

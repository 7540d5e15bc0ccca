/-! the reference keeps what it read -/
def PT1 (k : Nat) (q : Prt) (M : zM) : Prop := M.1 70 k = nI (kM q.1) ∧ (q.1 = 0 → q.2.2.length ≤ 12 ∧ M.1 72 k = nI q.2.2.length ∧ ∀ i, i < q.2.2.length → M.1 73 (12 * k + i) = nI (q.2.2.getD i 0))
def CT1 (i : Nat) (c : Cls) (M : zM) : Prop := M.1 65 i = bI (decide (c.2.2.1 = 0)) ∧ M.1 66 i = nI c.1 ∧ (c.2.2.1 ≠ 0 → M.1 67 i = nI c.2.1 ∧ M.1 68 i = nI c.2.2.1) ∧ c.2.2.2.length ≤ 8 ∧ M.1 69 i = nI c.2.2.2.length ∧ ∀ j, j < c.2.2.2.length → PT1 (8 * i + j) (pg c.2.2.2 j) M ∧ (c.2.2.1 ≠ 0 → M.1 71 (8 * i + j) = bI (pg c.2.2.2 j).2.1)
def CT (t : Nat) (C : List Cls) (M : zM) : Prop := M.1 64 t = nI C.length ∧ ∀ i, i < C.length → CT1 (12 * t + i) (cg C i) M
/-- parts from 8 c on, and nothing else -/
def hK (c : Nat) (M M1 : zM) : Prop := (∀ b, (b < 70 ∨ 73 < b) → M1.1 b = M.1 b) ∧ M1.2 = M.2 ∧ (∀ k, k < 8 * c → M1.1 70 k = M.1 70 k ∧ M1.1 71 k = M.1 71 k ∧ M1.1 72 k = M.1 72 k) ∧ ∀ k, k < 96 * c → M1.1 73 k = M.1 73 k
theorem hK.rf {c : Nat} {M : zM} : hK c M M := ⟨fun _ _ => rfl, rfl, fun _ _ => ⟨rfl, rfl, rfl⟩, fun _ _ => rfl⟩
theorem hK.tr {c : Nat} {M M1 M2 : zM} (h : hK c M M1) (h2 : hK c M1 M2) : hK c M M2 := ⟨fun b hb => (h2.1 b hb).trans (h.1 b hb), h2.2.1.trans h.2.1, fun k hk => ⟨(h2.2.2.1 k hk).1.trans (h.2.2.1 k hk).1, (h2.2.2.1 k hk).2.1.trans (h.2.2.1 k hk).2.1, (h2.2.2.1 k hk).2.2.trans (h.2.2.1 k hk).2.2⟩, fun k hk => (h2.2.2.2 k hk).trans (h.2.2.2 k hk)⟩
theorem keepL {F k c p s : Nat} {x1 : Int32} {M : zM} (hk : k < 12) (hc : c < 36) (hp : p < 8) (hs : s ≤ 12) (h : M.1 87 (8 * k + p) = nI s) (hF : 3000 < F) : ∃ M1, loopN (Mod_keep_B176 F x1 (nI k) (nI c) (nI p)) F (0, M) = some (1, 0, M1) ∧ (∀ b, b ≠ 73 → M1.1 b = M.1 b) ∧ M1.2 = M.2 ∧ (∀ x, x < 12 * (8 * c + p) → M1.1 73 x = M.1 73 x) ∧ ∀ x, x < s → M1.1 73 (12 * (8 * c + p) + x) = M.1 88 (12 * (8 * k + p) + x) := by
  have i1 : (8 : Int32) * nI k + nI p = nI (8 * k + p) := by rw [show (8 : Int32) = nI 8 from rfl, pk_mul, nI_add]
  have i2 : (8 : Int32) * nI c + nI p = nI (8 * c + p) := by rw [show (8 : Int32) = nI 8 from rfl, pk_mul, nI_add]
  have i3 : ∀ a x : Nat, (12 : Int32) * nI a + nI x = nI (12 * a + x) := fun a x => by rw [show (12 : Int32) = nI 12 from rfl, pk_mul, nI_add]
  have key := loopN_inv (body := Mod_keep_B176 F x1 (nI k) (nI c) (nI p)) (I := fun i z => ∃ M1, z = (nI i, M1) ∧ (∀ b, b ≠ 73 → M1.1 b = M.1 b) ∧ M1.2 = M.2 ∧ (∀ x, x < 12 * (8 * c + p) → M1.1 73 x = M.1 73 x) ∧ ∀ x, x < i → M1.1 73 (12 * (8 * c + p) + x) = M.1 88 (12 * (8 * k + p) + x)) (Qx := fun q => ∃ M1, q = (1, 0, M1) ∧ (∀ b, b ≠ 73 → M1.1 b = M.1 b) ∧ M1.2 = M.2 ∧ (∀ x, x < 12 * (8 * c + p) → M1.1 73 x = M.1 73 x) ∧ ∀ x, x < s → M1.1 73 (12 * (8 * c + p) + x) = M.1 88 (12 * (8 * k + p) + x)) (N := s) (F := F) (s := (0, M)) (fun i z hi hz => by
    obtain ⟨M1, rfl, f1, f2, f3, f4⟩ := hz
    refine Or.inl ?_
    unfold Mod_keep_B176
    dsimp only [lt]
    rw [i1, i2, if_pos (inb_nI (by omega) (by decide)), nI_clamp (by omega), f1 87 (by decide), h, if_neg (nI_ge hi (by omega)), i3, i3, if_pos (inb_nI (by omega) (by decide)), if_pos (inb_nI (by omega) (by decide)), nI_clamp (by omega), nI_clamp (by omega), f1 88 (by decide), nI_1]
    refine ⟨_, rfl, _, rfl, fun b hb => (zI_other hb).trans (f1 b hb), f2, fun x hx => ?_, fun x hx => ?_⟩
    · rw [zI_ne (Or.inr (by omega))]; exact f3 x hx
    · by_cases z : x = i
      · rw [z, zI_in]
      · rw [zI_ne (Or.inr (by omega))]; exact f4 x (by omega)) (fun z hz => by
    obtain ⟨M1, rfl, f1, f2, f3, f4⟩ := hz
    refine ⟨(1, 0, M1), ?_, (fun q => by cases q), M1, rfl, f1, f2, f3, f4⟩
    unfold Mod_keep_B176
    dsimp only
    rw [i1, if_pos (inb_nI (by omega) (by decide)), nI_clamp (by omega), f1 87 (by decide), h, if_pos (nI_le (Nat.le_refl _) (by omega))]) (by omega) ⟨M, rfl, fun _ _ => rfl, rfl, fun _ _ => rfl, fun x hx => absurd hx (Nat.not_lt_zero x)⟩
  obtain ⟨q, e, M1, rfl, r⟩ := key
  exact ⟨M1, e, r⟩
theorem keepP {F k c : Nat} {x1 : Int32} {cl : Cls} {M : zM} (hk : k < 12) (hc : c < 36) (h : CM1 k cl M) (hz : Z87 M) (hF : 3000 < F) : ∃ M1, loopN (Mod_keep_B90 F x1 (nI k) (nI c)) F (0, M) = some (1, 0, M1) ∧ hK c M M1 ∧ ∀ j, j < cl.2.2.2.length → PT1 (8 * c + j) (pg cl.2.2.2 j) M1 ∧ (cl.2.2.1 ≠ 0 → M1.1 71 (8 * c + j) = bI (pg cl.2.2.2 j).2.1) := by
  obtain ⟨h1, h2, h3, h4, h5, h6⟩ := h
  have i3 : ∀ a x : Nat, (8 : Int32) * nI a + nI x = nI (8 * a + x) := fun a x => by rw [show (8 : Int32) = nI 8 from rfl, pk_mul, nI_add]
  have key := loopN_inv (body := Mod_keep_B90 F x1 (nI k) (nI c)) (I := fun p z => ∃ M1, z = (nI p, M1) ∧ hK c M M1 ∧ ∀ j, j < p → PT1 (8 * c + j) (pg cl.2.2.2 j) M1 ∧ (cl.2.2.1 ≠ 0 → M1.1 71 (8 * c + j) = bI (pg cl.2.2.2 j).2.1)) (Qx := fun q => ∃ M1, q = (1, 0, M1) ∧ hK c M M1 ∧ ∀ j, j < cl.2.2.2.length → PT1 (8 * c + j) (pg cl.2.2.2 j) M1 ∧ (cl.2.2.1 ≠ 0 → M1.1 71 (8 * c + j) = bI (pg cl.2.2.2 j).2.1)) (N := cl.2.2.2.length) (F := F) (s := (0, M)) (fun p z hp hz' => by
    obtain ⟨M1, rfl, f1, g1⟩ := hz'
    obtain ⟨⟨u1, u2⟩, u3⟩ := h6 p hp
    obtain ⟨s, s1, s2⟩ := hz (8 * k + p) (by omega)
    have e85 := f1.1 85 (by omega)
    have e86 := f1.1 86 (by omega)
    have e87 := f1.1 87 (by omega)
    have e88 := f1.1 88 (by omega)
    obtain ⟨M2, q1, q2, q3, q4, q5⟩ := keepL (F := F) (x1 := x1) (k := k) (c := c) (p := p) (s := s) (M := zI (zI (zI M1 70 (8 * c + p) (nI (kM (pg cl.2.2.2 p).1))) 71 (8 * c + p) ((M.1 86 (8 * k + p)) &&& 1)) 72 (8 * c + p) (nI s)) hk hc (by omega) s1 (by rw [zI_other (by decide), zI_other (by decide), zI_other (by decide), e87]; exact s2) hF
    refine Or.inl ⟨(nI (p + 1), M2), ?_, M2, rfl, f1.tr ⟨fun b hb => ?_, ?_, fun x hx => ?_, fun x hx => ?_⟩, fun j hj => ?_⟩
    · unfold Mod_keep_B90
      dsimp only [lt]
      rw [if_pos (inb_nI hk (by decide)), nI_clamp (by omega), f1.1 84 (by omega), h5, if_neg (nI_ge hp (by omega)), i3, i3, if_pos (inb_nI (by omega) (by decide)), if_pos (inb_nI (by omega) (by decide)), nI_clamp (by omega), nI_clamp (by omega), e85, u1]
      rw [show (zI M1 70 (8 * c + p) (nI (kM (pg cl.2.2.2 p).1))).1 86 (8 * k + p) = M.1 86 (8 * k + p) from by rw [zI_other (by decide), e86], show (zI (zI M1 70 (8 * c + p) (nI (kM (pg cl.2.2.2 p).1))) 71 (8 * c + p) ((M.1 86 (8 * k + p)) &&& 1)).1 87 (8 * k + p) = nI s from by rw [zI_other (by decide), zI_other (by decide), e87]; exact s2, q1, Option.bind_some]
      dsimp only
      rw [if_pos rfl, nI_1]
    · rw [q2 b (by omega), zI_other (by omega), zI_other (by omega), zI_other (by omega)]
    · rw [q3]; rfl
    · refine ⟨?_, ?_, ?_⟩
      · rw [q2 70 (by decide), zI_other (by decide), zI_other (by decide), zI_ne (Or.inr (by omega))]
      · rw [q2 71 (by decide), zI_other (by decide), zI_ne (Or.inr (by omega)), zI_other (by decide)]
      · rw [q2 72 (by decide), zI_ne (Or.inr (by omega)), zI_other (by decide), zI_other (by decide)]
    · rw [q4 x (by omega)]; rfl
    · by_cases z : j = p
      · subst z
        refine ⟨⟨?_, fun q0 => ⟨(u2 q0).1, ?_, fun x hx => ?_⟩⟩, fun un => ?_⟩
        · rw [q2 70 (by decide), zI_other (by decide), zI_other (by decide), zI_in]
        · rw [q2 72 (by decide), zI_in, ← s2]; exact (u2 q0).2.1
        · have es : s = (pg cl.2.2.2 j).2.2.length := by
            have a := (u2 q0).2.1
            rw [s2] at a
            exact (nI_eq (by omega) (by have := (u2 q0).1; omega)).mp a
          rw [q5 x (by omega), zI_other (by decide), zI_other (by decide), zI_other (by decide), e88]
          exact (u2 q0).2.2 x hx
        · rw [q2 71 (by decide), zI_other (by decide), zI_in, u3 un, bI_and]
      · obtain ⟨⟨w1, w2⟩, w3⟩ := g1 j (by omega)
        refine ⟨⟨?_, fun q0 => ⟨(w2 q0).1, ?_, fun x hx => ?_⟩⟩, fun un => ?_⟩
        · rw [q2 70 (by decide), zI_other (by decide), zI_other (by decide), zI_ne (Or.inr (by omega))]; exact w1
        · rw [q2 72 (by decide), zI_ne (Or.inr (by omega)), zI_other (by decide), zI_other (by decide)]; exact (w2 q0).2.1
        · have := (w2 q0).1
          rw [q4 _ (by omega)]; exact (w2 q0).2.2 x hx
        · rw [q2 71 (by decide), zI_other (by decide), zI_ne (Or.inr (by omega)), zI_other (by decide)]; exact w3 un) (fun z hz' => by
    obtain ⟨M1, rfl, f1, g1⟩ := hz'
    refine ⟨(1, 0, M1), ?_, (fun q => by cases q), M1, rfl, f1, g1⟩
    unfold Mod_keep_B90
    dsimp only
    rw [if_pos (inb_nI hk (by decide)), nI_clamp (by omega), f1.1 84 (by omega), h5, if_pos (nI_le (Nat.le_refl _) (by omega))]) (by omega) ⟨M, rfl, hK.rf, fun j hj => absurd hj (Nat.not_lt_zero j)⟩
  obtain ⟨q, e, M1, rfl, r⟩ := key
  exact ⟨M1, e, r⟩
theorem CT1.keep {i c : Nat} {cl : Cls} {M M1 : zM} (h : CT1 i cl M) (hi : i < c) (hK1 : (∀ b k, 65 ≤ b → b ≤ 69 → k ≠ c → M1.1 b k = M.1 b k) ∧ (∀ k, k < 8 * c → M1.1 70 k = M.1 70 k ∧ M1.1 71 k = M.1 71 k ∧ M1.1 72 k = M.1 72 k) ∧ ∀ k, k < 96 * c → M1.1 73 k = M.1 73 k) : CT1 i cl M1 := by
  obtain ⟨h1, h2, h3, h4, h5, h6⟩ := h
  obtain ⟨k1, k2, k3⟩ := hK1
  refine ⟨by rw [k1 65 i (by decide) (by decide) (by omega)]; exact h1, by rw [k1 66 i (by decide) (by decide) (by omega)]; exact h2, fun q => ⟨by rw [k1 67 i (by decide) (by decide) (by omega)]; exact (h3 q).1, by rw [k1 68 i (by decide) (by decide) (by omega)]; exact (h3 q).2⟩, h4, by rw [k1 69 i (by decide) (by decide) (by omega)]; exact h5, fun j hj => ?_⟩
  obtain ⟨⟨u1, u2⟩, u3⟩ := h6 j hj
  obtain ⟨v1, v2, v3⟩ := k2 (8 * i + j) (by omega)
  refine ⟨⟨by rw [v1]; exact u1, fun q => ⟨(u2 q).1, by rw [v3]; exact (u2 q).2.1, fun x hx => ?_⟩⟩, fun q => by rw [v2]; exact u3 q⟩
  have := (u2 q).1
  rw [k3 _ (by omega)]
  exact (u2 q).2.2 x hx
theorem keep_ok {F t : Nat} {w : List Nat} {C : List Cls} {M0 M : zM} (h : BM w C M0 M) (ht : t < 3) (h12 : C.length ≤ 12) (hF : 3000 < F) : ∃ M1, Mod_keep F (nI t) M = some ((), M1) ∧ CT t C M1 ∧ (∀ b, (b < 64 ∨ 73 < b) → M1.1 b = M.1 b) ∧ M1.2 = M.2 ∧ ∀ k, k ≠ t → M1.1 64 k = M.1 64 k := by
  obtain ⟨hT, hf, hz, h19, h17, hC⟩ := h
  have ix : ∀ k : Nat, (12 : Int32) * nI t + nI k = nI (12 * t + k) := fun k => by rw [show (12 : Int32) = nI 12 from rfl, pk_mul, nI_add]
  have key := loopN_inv (body := Mod_keep_B12 F (nI t)) (I := fun k s => ∃ M1, s = (nI k, M1) ∧ M1.1 64 = (zI M 64 t (nI C.length)).1 64 ∧ (∀ b, (b < 64 ∨ 73 < b) → M1.1 b = M.1 b) ∧ M1.2 = M.2 ∧ ∀ i, i < k → CT1 (12 * t + i) (cg C i) M1) (Qx := fun q => ∃ M1, q = (1, 0, M1) ∧ M1.1 64 = (zI M 64 t (nI C.length)).1 64 ∧ (∀ b, (b < 64 ∨ 73 < b) → M1.1 b = M.1 b) ∧ M1.2 = M.2 ∧ ∀ i, i < C.length → CT1 (12 * t + i) (cg C i) M1) (N := C.length) (F := F) (s := (0, zI M 64 t (nI C.length))) (fun k s hk hs => by
    obtain ⟨M1, rfl, f64, f1, f2, g1⟩ := hs
    have cm := hC k hk
    -- the clause's own fields
    have hM2 : ∀ b, (b < 65 ∨ 69 < b) → (zI (zI (zI (zI (zI M1 65 (12 * t + k) ((M.1 80 k) &&& 1)) 66 (12 * t + k) (M.1 81 k)) 67 (12 * t + k) (M.1 82 k)) 68 (12 * t + k) (M.1 83 k)) 69 (12 * t + k) (M.1 84 k)).1 b = M1.1 b := fun b hb => by rw [zI_other (by omega), zI_other (by omega), zI_other (by omega), zI_other (by omega), zI_other (by omega)]
    have r65 : (zI (zI (zI (zI (zI M1 65 (12 * t + k) ((M.1 80 k) &&& 1)) 66 (12 * t + k) (M.1 81 k)) 67 (12 * t + k) (M.1 82 k)) 68 (12 * t + k) (M.1 83 k)) 69 (12 * t + k) (M.1 84 k)).1 65 (12 * t + k) = (M.1 80 k) &&& 1 := by rw [zI_other (by decide), zI_other (by decide), zI_other (by decide), zI_other (by decide), zI_in]
    have r66 : (zI (zI (zI (zI (zI M1 65 (12 * t + k) ((M.1 80 k) &&& 1)) 66 (12 * t + k) (M.1 81 k)) 67 (12 * t + k) (M.1 82 k)) 68 (12 * t + k) (M.1 83 k)) 69 (12 * t + k) (M.1 84 k)).1 66 (12 * t + k) = M.1 81 k := by rw [zI_other (by decide), zI_other (by decide), zI_other (by decide), zI_in]
    have r67 : (zI (zI (zI (zI (zI M1 65 (12 * t + k) ((M.1 80 k) &&& 1)) 66 (12 * t + k) (M.1 81 k)) 67 (12 * t + k) (M.1 82 k)) 68 (12 * t + k) (M.1 83 k)) 69 (12 * t + k) (M.1 84 k)).1 67 (12 * t + k) = M.1 82 k := by rw [zI_other (by decide), zI_other (by decide), zI_in]
    have r68 : (zI (zI (zI (zI (zI M1 65 (12 * t + k) ((M.1 80 k) &&& 1)) 66 (12 * t + k) (M.1 81 k)) 67 (12 * t + k) (M.1 82 k)) 68 (12 * t + k) (M.1 83 k)) 69 (12 * t + k) (M.1 84 k)).1 68 (12 * t + k) = M.1 83 k := by rw [zI_other (by decide), zI_in]
    have r69 : (zI (zI (zI (zI (zI M1 65 (12 * t + k) ((M.1 80 k) &&& 1)) 66 (12 * t + k) (M.1 81 k)) 67 (12 * t + k) (M.1 82 k)) 68 (12 * t + k) (M.1 83 k)) 69 (12 * t + k) (M.1 84 k)).1 69 (12 * t + k) = M.1 84 k := zI_in
    have rn : ∀ b j, 65 ≤ b → b ≤ 69 → j ≠ 12 * t + k → (zI (zI (zI (zI (zI M1 65 (12 * t + k) ((M.1 80 k) &&& 1)) 66 (12 * t + k) (M.1 81 k)) 67 (12 * t + k) (M.1 82 k)) 68 (12 * t + k) (M.1 83 k)) 69 (12 * t + k) (M.1 84 k)).1 b j = M1.1 b j := fun b j _ _ hj => by rw [zI_ne (Or.inr hj), zI_ne (Or.inr hj), zI_ne (Or.inr hj), zI_ne (Or.inr hj), zI_ne (Or.inr hj)]
    have r2 : (zI (zI (zI (zI (zI M1 65 (12 * t + k) ((M.1 80 k) &&& 1)) 66 (12 * t + k) (M.1 81 k)) 67 (12 * t + k) (M.1 82 k)) 68 (12 * t + k) (M.1 83 k)) 69 (12 * t + k) (M.1 84 k)).2 = M1.2 := rfl
    have st : Mod_keep_B12 F (nI t) (nI k, M1) = (loopN (Mod_keep_B90 F (nI t) (nI k) (nI (12 * t + k))) F (0, zI (zI (zI (zI (zI M1 65 (12 * t + k) ((M.1 80 k) &&& 1)) 66 (12 * t + k) (M.1 81 k)) 67 (12 * t + k) (M.1 82 k)) 68 (12 * t + k) (M.1 83 k)) 69 (12 * t + k) (M.1 84 k))).bind fun (k_46, x4_44, M_45) => if k_46 = 1 then some (0, nI (k + 1), M_45) else none := by
      unfold Mod_keep_B12
      dsimp only [lt]
      rw [f1 63 (by decide), h19, if_neg (nI_ge hk (by omega)), ix, if_pos (inb_nI (by omega) (by decide)), if_pos (inb_nI (by omega) (by decide)), nI_clamp (by omega), nI_clamp (by omega), f1 80 (by decide), nI_1]
      rw [show (zI M1 65 (12 * t + k) ((M.1 80 k) &&& 1)).1 81 k = M.1 81 k from by rw [zI_other (by decide), f1 81 (by decide)]]
      rw [show (zI (zI M1 65 (12 * t + k) ((M.1 80 k) &&& 1)) 66 (12 * t + k) (M.1 81 k)).1 82 k = M.1 82 k from by rw [zI_other (by decide), zI_other (by decide), f1 82 (by decide)]]
      rw [show (zI (zI (zI M1 65 (12 * t + k) ((M.1 80 k) &&& 1)) 66 (12 * t + k) (M.1 81 k)) 67 (12 * t + k) (M.1 82 k)).1 83 k = M.1 83 k from by rw [zI_other (by decide), zI_other (by decide), zI_other (by decide), f1 83 (by decide)]]
      rw [show (zI (zI (zI (zI M1 65 (12 * t + k) ((M.1 80 k) &&& 1)) 66 (12 * t + k) (M.1 81 k)) 67 (12 * t + k) (M.1 82 k)) 68 (12 * t + k) (M.1 83 k)).1 84 k = M.1 84 k from by rw [zI_other (by decide), zI_other (by decide), zI_other (by decide), zI_other (by decide), f1 84 (by decide)]]
    generalize zI (zI (zI (zI (zI M1 65 (12 * t + k) ((M.1 80 k) &&& 1)) 66 (12 * t + k) (M.1 81 k)) 67 (12 * t + k) (M.1 82 k)) 68 (12 * t + k) (M.1 83 k)) 69 (12 * t + k) (M.1 84 k) = M2 at *
    have eq80 : ∀ b, 80 ≤ b → b ≤ 88 → M2.1 b = M.1 b := fun b b1 b2 => (hM2 b (by omega)).trans (f1 b (by omega))
    have cm2 : CM1 k (cg C k) M2 := by
      unfold CM1 PM1 at cm ⊢
      rw [eq80 80 (by decide) (by decide), eq80 81 (by decide) (by decide), eq80 82 (by decide) (by decide), eq80 83 (by decide) (by decide), eq80 84 (by decide) (by decide), eq80 85 (by decide) (by decide), eq80 86 (by decide) (by decide), eq80 87 (by decide) (by decide), eq80 88 (by decide) (by decide)]
      exact cm
    obtain ⟨M3, q1, q2, q3⟩ := keepP (F := F) (x1 := nI t) (k := k) (c := 12 * t + k) (by omega) (by omega) cm2 (hz.same (eq80 87 (by decide) (by decide))) hF
    refine Or.inl ⟨(nI (k + 1), M3), by rw [st, q1, Option.bind_some]; rfl, M3, rfl, (q2.1 64 (by omega)).trans ((hM2 64 (by omega)).trans f64), fun b hb => (q2.1 b (by omega)).trans ((hM2 b (by omega)).trans (f1 b hb)), q2.2.1.trans (r2.trans f2), fun i hi => ?_⟩
    by_cases z : i = k
    · subst z
      refine ⟨by rw [q2.1 65 (by omega), r65, cm.1, bI_and], by rw [q2.1 66 (by omega), r66]; exact cm.2.1, fun un => ⟨by rw [q2.1 67 (by omega), r67]; exact (cm.2.2.1 un).1, by rw [q2.1 68 (by omega), r68]; exact (cm.2.2.1 un).2⟩, cm.2.2.2.1, by rw [q2.1 69 (by omega), r69]; exact cm.2.2.2.2.1, q3⟩
    · refine (g1 i (by omega)).keep (c := 12 * t + k) (by omega) ⟨fun b j b1 b2 hj => ?_, fun j hj => ?_, fun j hj => ?_⟩
      · rw [q2.1 b (by omega)]; exact rn b j b1 b2 hj
      · obtain ⟨y1, y2, y3⟩ := q2.2.2.1 j hj
        exact ⟨y1.trans (congrFun (hM2 70 (by omega)) j), y2.trans (congrFun (hM2 71 (by omega)) j), y3.trans (congrFun (hM2 72 (by omega)) j)⟩
      · exact (q2.2.2.2 j hj).trans (congrFun (hM2 73 (by omega)) j)) (fun s hs => by
    obtain ⟨M1, rfl, f64, f1, f2, g1⟩ := hs
    refine ⟨(1, 0, M1), ?_, (fun q => by cases q), M1, rfl, f64, f1, f2, g1⟩
    unfold Mod_keep_B12
    dsimp only
    rw [f1 63 (by decide), h19, if_pos (nI_le (Nat.le_refl _) (by omega))]) (by omega) ⟨_, rfl, rfl, fun b hb => zI_other (by omega), rfl, fun i hi => absurd hi (Nat.not_lt_zero i)⟩
  obtain ⟨q, e, M1, rfl, f64, f1, f2, g1⟩ := key
  refine ⟨M1, ?_, ⟨by rw [f64, zI_in], g1⟩, f1, f2, fun k hk => by rw [f64, zI_ne (Or.inr hk)]⟩
  unfold Mod_keep
  dsimp only [lt]
  rw [if_pos (inb_nI ht (by decide)), nI_clamp (by omega), h19, e, Option.bind_some]
  rfl

/-! the reference makes names: all passes -/
def zc (st : Nat → Nat) : Nat := ctF (fun m => decide (st m = 0)) 0 1000
theorem ctF_le {p q : Nat → Bool} {lo : Nat} : ∀ j, (∀ m, m < lo + j → p m = true → q m = true) → ctF p lo j ≤ ctF q lo j := by
  intro j
  induction j with
  | zero => intro _; exact Nat.le_refl _
  | succ j ih =>
    intro h
    have i1 := ih (fun m hm => h m (by omega))
    rw [ctF_s, ctF_s]
    by_cases c : p (lo + j) = true
    · rw [if_pos c, if_pos (h (lo + j) (by omega) c)]; omega
    · rw [if_neg c]; omega
theorem ctF_less {p q : Nat → Bool} {lo : Nat} : ∀ j, (∀ m, m < lo + j → p m = true → q m = true) → (∃ m, lo ≤ m ∧ m < lo + j ∧ p m = false ∧ q m = true) → ctF p lo j + 1 ≤ ctF q lo j := by
  intro j
  induction j with
  | zero => rintro _ ⟨m, h1, h2, _⟩; omega
  | succ j ih =>
    rintro h ⟨m, h1, h2, h3, h4⟩
    rw [ctF_s, ctF_s]
    by_cases e : m = lo + j
    · subst e
      have := ctF_le (lo := lo) j (fun m hm => h m (by omega))
      rw [if_neg (by rw [h3]; decide), if_pos h4]; omega
    · have i1 := ih (fun m hm => h m (by omega)) ⟨m, h1, by omega, h3, h4⟩
      by_cases c : p (lo + j) = true
      · rw [if_pos c, if_pos (h (lo + j) (by omega) c)]; omega
      · rw [if_neg c]; omega
theorem ctF_b {p : Nat → Bool} {lo : Nat} : ∀ j, ctF p lo j ≤ j := by
  intro j
  induction j with
  | zero => exact Nat.le_refl _
  | succ j ih => rw [ctF_s]; split <;> omega
theorem zc_b {st : Nat → Nat} : zc st + 0 ≤ 1000 := by
  unfold zc
  rw [Nat.add_zero]
  exact ctF_b 1000
theorem upS_id {st : Nat → Nat} {n : Nat} (h : st n = 0) : upS st n 0 = st := by
  funext m
  unfold upS
  by_cases z : m = n
  · rw [if_pos z, z, h]
  · rw [if_neg z]
theorem pass_ok {F t : Nat} {C : List Cls} {N0 : Nat → Option Nm} {st0 : Nat → Nat} {M0 M : zM} (h : NBM t C N0 st0 M0 M) (iv : Iv C N0 st0) (ht : t < 3) (h12 : C.length ≤ 12) (hok : ∀ c ∈ C, okCl c) (hF : 3000 < F) : ∃ M1 N1 st1 g, loopN (Mod_findNames_B71 F (nI t)) F (0, 0, M) = some (1, bI g, 0, M1) ∧ NBM t C N1 st1 M0 M1 ∧ Iv C N1 st1 ∧ (g = true → zc st1 + 1 ≤ zc st0) ∧ (g = false → Fn C st1 1000) := by
  have key := loopN_inv (body := Mod_findNames_B71 F (nI t)) (I := fun n s => ∃ M1 N1 st1 g, s = (bI g, nI n, M1) ∧ NBM t C N1 st1 M0 M1 ∧ Iv C N1 st1 ∧ (∀ m, st0 m ≠ 0 → st1 m = st0 m) ∧ (g = true → ∃ m, m < 1000 ∧ st0 m = 0 ∧ st1 m ≠ 0) ∧ (∀ m, n ≤ m → st1 m = st0 m) ∧ (g = false → st1 = st0 ∧ Fn C st0 n)) (Qx := fun q => ∃ M1 N1 st1 g, q = (1, bI g, 0, M1) ∧ NBM t C N1 st1 M0 M1 ∧ Iv C N1 st1 ∧ (∀ m, st0 m ≠ 0 → st1 m = st0 m) ∧ (g = true → ∃ m, m < 1000 ∧ st0 m = 0 ∧ st1 m ≠ 0) ∧ (g = false → st1 = st0 ∧ Fn C st0 1000)) (N := 1000) (F := F) (s := (0, 0, M)) (fun n s hn hs => by
    obtain ⟨M1, N1, st1, g, rfl, nb, iv1, a1, a2, a3, a4⟩ := hs
    refine Or.inl ?_
    by_cases c : st1 n = 0
    · obtain ⟨M2, N2, v, k1, k2, k3, k4⟩ := one_ok (F := F) (x2 := g) nb iv1 hn c ht h12 hok hF
      have s0 : st0 n = 0 := by rw [← a3 n (Nat.le_refl _)]; exact c
      refine ⟨_, k1, M2, N2, upS st1 n v, g || decide (0 < v), rfl, k2, k3, fun m hm => ?_, fun hg => ?_, fun m hm => ?_, fun hg => ?_⟩
      · unfold upS
        rw [if_neg (fun z => hm (by rw [z]; exact s0))]; exact a1 m hm
      · by_cases vp : 0 < v
        · exact ⟨n, hn, s0, by unfold upS; rw [if_pos rfl]; omega⟩
        · rw [decide_eq_false vp, Bool.or_false] at hg
          obtain ⟨m, m1, m2, m3⟩ := a2 hg
          refine ⟨m, m1, m2, ?_⟩
          unfold upS
          by_cases z : m = n
          · rw [z] at m3; exact absurd c m3
          · rw [if_neg z]; exact m3
      · unfold upS
        rw [if_neg (by omega)]; exact a3 m (by omega)
      · rw [Bool.or_eq_false_iff] at hg
        obtain ⟨b1, b2⟩ := a4 hg.1
        have v0 : v = 0 := by have := of_decide_eq_false hg.2; omega
        subst v0
        rw [upS_id c]
        refine ⟨b1, fun m hm hz => ?_⟩
        by_cases z : m = n
        · subst z
          obtain ⟨_, i, i1, i2, i3⟩ := k4 rfl
          rw [b1] at i3
          exact ⟨i, i1, i2, i3⟩
        · exact b2 m (by omega) hz
    · have nz1 : ¬ nI (st1 n) = 0 := fun q => c ((nI_eq (b := 0) (by have := (iv1 n hn).1; omega) (by decide)).mp q)
      refine ⟨(bI g, nI (n + 1), M1), ?_, M1, N1, st1, g, rfl, nb, iv1, a1, a2, fun m hm => a3 m (by omega), fun hg => ⟨(a4 hg).1, fun m hm hz => ?_⟩⟩
      · unfold Mod_findNames_B71
        dsimp only [lt]
        rw [if_neg (show ¬ (1000 : Int32) ≤ nI n from nI_ge (b := 1000) hn (by decide)), if_pos (inb_nI hn (by decide)), nI_clamp (by omega), nb.2.2.1 n hn, if_neg nz1, nI_1]
      · by_cases z : m = n
        · rw [z, ← a3 n (Nat.le_refl _)] at hz; exact absurd hz c
        · exact (a4 hg).2 m (by omega) hz) (fun s hs => by
    obtain ⟨M1, N1, st1, g, rfl, nb, iv1, a1, a2, a3, a4⟩ := hs
    refine ⟨(1, bI g, 0, M1), ?_, (fun q => by cases q), M1, N1, st1, g, rfl, nb, iv1, a1, a2, a4⟩
    unfold Mod_findNames_B71
    exact if_pos (by decide)) (by omega) ⟨M, N0, st0, false, rfl, h, iv, fun _ _ => rfl, fun q => (by cases q), fun _ _ => rfl, fun _ => ⟨rfl, fun m hm => absurd hm (Nat.not_lt_zero m)⟩⟩
  obtain ⟨q, e, M1, N1, st1, g, rfl, nb, iv1, a1, a2, a4⟩ := key
  refine ⟨M1, N1, st1, g, e, nb, iv1, fun hg => ?_, fun hg => ?_⟩
  · obtain ⟨m, m1, m2, m3⟩ := a2 hg
    refine ctF_less 1000 (fun m' _ hp => ?_) ⟨m, Nat.zero_le _, by omega, decide_eq_false m3, decide_eq_true m2⟩
    have := of_decide_eq_true hp
    by_cases z : st0 m' = 0
    · exact decide_eq_true z
    · rw [a1 m' z] at this; exact absurd this z
  · obtain ⟨b1, b2⟩ := a4 hg
    rw [b1]; exact b2
theorem Fn.all {C : List Cls} {st : Nat → Nat} (h : Fn C st 1000) : ∀ k m, m < 1000 → st m = 0 → nmD C k m = none := by
  intro k
  induction k with
  | zero => intro m _ _; rfl
  | succ k ih =>
    intro m hm hz
    cases e : nmD C (k + 1) m with
    | none => rfl
    | some x =>
      exfalso
      obtain ⟨i, r, h1, h2, _⟩ := nmD_some.mp e
      obtain ⟨i', g1, g2, g3⟩ := h m hm hz
      rw [h1] at g1
      injection g1 with g1
      subst g1
      have h4 := nmO_some.mp h2
      rcases stP_0 _ 1 g3 with y | ⟨q, hq, hq0⟩
      · cases y
      · unfold stQ at hq0
        by_cases q0 : q.1 = 0
        · rw [if_pos q0] at hq0; cases hq0
        · rw [if_neg q0] at hq0
          by_cases hth : thr q m (cg C i).2.2.1 = true
          · rw [if_pos hth] at hq0
            have := bldP_all _ _ _ h4.1 q hq hth
            unfold prtW at this
            rw [if_neg q0] at this
            by_cases am : askN q.1 m (cg C i).2.2.1 < 1000
            · rw [if_pos am] at hq0 this
              rw [ih _ am hq0] at this
              exact this rfl
            · rw [if_neg am] at hq0; cases hq0
          · rw [if_neg hth] at hq0; cases hq0
theorem names_ok {F t : Nat} {C : List Cls} {M : zM} (hC : CT t C M) (ht : t < 3) (h12 : C.length ≤ 12) (hok : ∀ c ∈ C, okCl c) (hF : 3000 < F) : ∃ M1, Mod_findNames F (nI t) M = some ((), M1) ∧ (∀ n, n < 1000 → MN (1000 * t + n) (NM C n) M1) ∧ M1.1 63 35 = 0 ∧ (∀ b, b ≠ 63 → b ≠ 74 → b ≠ 76 → b ≠ 77 → b ≠ 78 → b ≠ 89 → b ≠ 90 → M1.1 b = M.1 b) ∧ (∀ k, k ≠ 33 → k ≠ 35 → M1.1 63 k = M.1 63 k) ∧ (∀ j, (j < 1000 * t ∨ 1000 * t + 1000 ≤ j) → M1.1 74 j = M.1 74 j ∧ M1.1 76 j = M.1 76 j ∧ M1.1 77 j = M.1 77 j ∧ M1.1 78 j = M.1 78 j) ∧ (∀ b, b ≠ 75 → M1.2 b = M.2 b) ∧ ∀ k, (k < 8000 * t ∨ 8000 * t + 8000 ≤ k) → M1.2 75 k = M.2 75 k := by
  have k0 := loopN_inv (body := Mod_findNames_B2 F (nI t)) (I := fun n s => ∃ M1, s = (nI n, M1) ∧ fR t M M1 ∧ M1.2 = M.2 ∧ ∀ m, m < n → M1.1 90 m = 0 ∧ M1.1 74 (1000 * t + m) = -1 ∧ M1.1 76 (1000 * t + m) = -1 ∧ M1.1 77 (1000 * t + m) = -1) (Qx := fun q => ∃ M1, q = (1, 0, M1) ∧ fR t M M1 ∧ M1.2 = M.2 ∧ ∀ m, m < 1000 → M1.1 90 m = 0 ∧ M1.1 74 (1000 * t + m) = -1 ∧ M1.1 76 (1000 * t + m) = -1 ∧ M1.1 77 (1000 * t + m) = -1) (N := 1000) (F := F) (s := (0, M)) (fun n s hn hs => by
    obtain ⟨M1, rfl, f1, f2, g1⟩ := hs
    refine Or.inl ?_
    unfold Mod_findNames_B2
    dsimp only [lt]
    rw [if_neg (show ¬ (1000 : Int32) ≤ nI n from nI_ge (b := 1000) hn (by decide)), if_pos (inb_nI hn (by decide)), nI_clamp (by omega), ix_t, if_pos (inb_nI (by omega) (by decide)), nI_clamp (by omega), nI_1]
    refine ⟨_, rfl, _, rfl, ⟨fun b b1 b2 b3 b4 b5 b6 b7 => ?_, fun k hk => ?_, fun j hj => ?_, f1.2.2.2.1, f1.2.2.2.2⟩, f2, fun m hm => ?_⟩
    · rw [zI_other b4, zI_other b3, zI_other b2, zI_other b7]; exact f1.1 b b1 b2 b3 b4 b5 b6 b7
    · rw [zI_other (by decide), zI_other (by decide), zI_other (by decide), zI_other (by decide)]; exact f1.2.1 k hk
    · obtain ⟨v1, v2, v3, v4⟩ := f1.2.2.1 j hj
      refine ⟨?_, ?_, ?_, ?_⟩
      · rw [zI_other (by decide), zI_other (by decide), zI_ne (Or.inr (by omega)), zI_other (by decide)]; exact v1
      · rw [zI_other (by decide), zI_ne (Or.inr (by omega)), zI_other (by decide), zI_other (by decide)]; exact v2
      · rw [zI_ne (Or.inr (by omega)), zI_other (by decide), zI_other (by decide), zI_other (by decide)]; exact v3
      · rw [zI_other (by decide), zI_other (by decide), zI_other (by decide), zI_other (by decide)]; exact v4
    · by_cases z : m = n
      · subst z
        refine ⟨?_, ?_, ?_, ?_⟩
        · rw [zI_other (by decide), zI_other (by decide), zI_other (by decide), zI_in]
        · rw [zI_other (by decide), zI_other (by decide), zI_in]
        · rw [zI_other (by decide), zI_in]
        · rw [zI_in]
      · obtain ⟨v1, v2, v3, v4⟩ := g1 m (by omega)
        refine ⟨?_, ?_, ?_, ?_⟩
        · rw [zI_other (by decide), zI_other (by decide), zI_other (by decide), zI_ne (Or.inr z)]; exact v1
        · rw [zI_other (by decide), zI_other (by decide), zI_ne (Or.inr (by omega)), zI_other (by decide)]; exact v2
        · rw [zI_other (by decide), zI_ne (Or.inr (by omega)), zI_other (by decide), zI_other (by decide)]; exact v3
        · rw [zI_ne (Or.inr (by omega)), zI_other (by decide), zI_other (by decide), zI_other (by decide)]; exact v4) (fun s hs => by
    obtain ⟨M1, rfl, f1, f2, g1⟩ := hs
    refine ⟨(1, 0, M1), ?_, (fun q => by cases q), M1, rfl, f1, f2, g1⟩
    unfold Mod_findNames_B2
    exact if_pos (by decide)) (by omega) ⟨M, rfl, ⟨fun _ _ _ _ _ _ _ _ => rfl, fun _ _ => rfl, fun _ _ => ⟨rfl, rfl, rfl, rfl⟩, fun _ _ => rfl, fun _ _ => rfl⟩, rfl, fun m hm => absurd hm (Nat.not_lt_zero m)⟩
  obtain ⟨q, e0, M1, rfl, f1, f2, g1⟩ := k0
  have nb0 : NBM t C (fun _ => none) (fun _ => 0) M M1 := ⟨hC.keep (fun b b1 b2 => f1.1 b (by omega) (by omega) (by omega) (by omega) (by omega) (by omega) (by omega)), fun n hn => ⟨(g1 n hn).2.1, (g1 n hn).2.2.1, (g1 n hn).2.2.2⟩, fun n hn => (g1 n hn).1, f1⟩
  have iv0 : Iv C (fun _ => none) (fun _ => 0) := fun m hm => ⟨(by show (0 : Nat) < 3; decide), ⟨fun q => (by cases q), fun q => (by cases q)⟩, fun x hx => (by cases hx), fun q => (by cases q)⟩
  have k1 := loopN_inv (body := Mod_findNames_B63 F (nI t)) (I := fun k s => ∃ M2 N2 st2 g, s = (bI g, M2) ∧ NBM t C N2 st2 M M2 ∧ Iv C N2 st2 ∧ (g = true → zc st2 + k ≤ 1000) ∧ (g = false → Fn C st2 1000)) (Qx := fun q => ∃ M2 N2 st2, q = (1, 0, M2) ∧ NBM t C N2 st2 M M2 ∧ Iv C N2 st2 ∧ Fn C st2 1000) (N := 1001) (F := F) (s := (1, M1)) (fun k s hk hs => by
    obtain ⟨M2, N2, st2, g, rfl, nb, iv, z1, z2⟩ := hs
    unfold Mod_findNames_B63
    dsimp only
    cases g with
    | false =>
      rw [if_pos (show bI false = 0 from rfl)]
      exact Or.inr ⟨_, rfl, (fun q => by cases q), M2, N2, st2, rfl, nb, iv, z2 rfl⟩
    | true =>
      obtain ⟨M3, N3, st3, g3, p1, p2, p3, p4, p5⟩ := pass_ok (F := F) nb iv ht h12 hok hF
      rw [if_neg (show ¬ bI true = 0 by decide), p1, Option.bind_some]
      dsimp only
      rw [if_pos rfl]
      exact Or.inl ⟨_, rfl, M3, N3, st3, g3, rfl, p2, p3, fun hg => (by have := p4 hg; have := z1 rfl; omega), p5⟩) (fun s hs => by
    obtain ⟨M2, N2, st2, g, rfl, nb, iv, z1, z2⟩ := hs
    cases g with
    | true => have := z1 rfl; omega
    | false => exact ⟨(1, 0, M2), rfl, (fun q => by cases q), M2, N2, st2, rfl, nb, iv, z2 rfl⟩) (by omega) ⟨M1, _, _, true, rfl, nb0, iv0, fun _ => zc_b, fun q => (by cases q)⟩
  obtain ⟨q, e1, M2, N2, st2, rfl, nb, iv, fn⟩ := k1
  obtain ⟨c1, c2, c3, c4⟩ := nb
  have eqN : ∀ n, n < 1000 → N2 n = NM C n := fun n hn => by
    obtain ⟨i1, i2, i3, i4⟩ := iv n hn
    cases e : N2 n with
    | some x => rw [i3 x e]
    | none =>
      have : st2 n ≠ 1 := fun q => by have := i2.mp q; rw [e] at this; cases this
      rcases (show st2 n = 0 ∨ st2 n = 2 by omega) with y | y
      · exact (fn.all 8 n hn y).symm
      · exact (i4 y).symm
  refine ⟨zI M2 63 35 0, ?_, fun n hn => ?_, zI_in, fun b b1 b2 b3 b4 b5 b6 b7 => (zI_other b1).trans (c4.1 b b1 b2 b3 b4 b5 b6 b7), fun k h33 h35 => (zI_ne (Or.inr h35)).trans (c4.2.1 k h33), fun j hj => ?_, c4.2.2.2.1, c4.2.2.2.2⟩
  · unfold Mod_findNames
    rw [e0, Option.bind_some]
    dsimp only [lt]
    rw [if_pos rfl, e1, Option.bind_some]
    rfl
  · rw [← eqN n hn]
    exact (c2 n hn).same (fun b b1 b2 => ⟨zI_other (by omega), rfl⟩)
  · rw [zI_other (by decide), zI_other (by decide), zI_other (by decide), zI_other (by decide)]
    exact c4.2.2.1 j hj

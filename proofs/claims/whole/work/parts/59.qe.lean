/-! nearest -/
theorem lev_m (p t : Nat → Nat) : ∀ i j, lev p t i j ≤ max i j := by
  intro i
  induction i with
  | zero => intro j; rw [lev_0]; omega
  | succ i ih =>
    intro j
    cases j with
    | zero => rw [lev_z]; omega
    | succ j =>
      have := ih j
      rw [lev_s]
      split <;> omega
def dsN (T : Tn) (u : List Nat) (n : Nat) : Nat := lev (gt0 u) (gt0 (runW (nmW T n))) u.length (runW (nmW T n)).length
def bst (T : Tn) (u : List Nat) : Nat → Option (Nat × Nat)
  | 0 => none
  | n + 1 => if (T.2 n).isSome = true then (match bst T u n with
    | none => some (n, dsN T u n)
    | some q => if dsN T u n < q.2 then some (n, dsN T u n) else some q) else bst T u n
theorem bst_s (T : Tn) (u : List Nat) (n : Nat) : bst T u (n + 1) = if (T.2 n).isSome = true then (match bst T u n with
    | none => some (n, dsN T u n)
    | some q => if dsN T u n < q.2 then some (n, dsN T u n) else some q) else bst T u n := rfl
theorem bst_0 {T : Tn} {u : List Nat} {n b : Nat} (h : bst T u n = some (b, 0)) : ∀ j, bst T u (n + j) = some (b, 0) := by
  intro j
  induction j with
  | zero => exact h
  | succ j ih =>
    rw [← Nat.add_assoc, bst_s, ih]
    by_cases c : (T.2 (n + j)).isSome = true
    · rw [if_pos c]; exact if_neg (Nat.not_lt_zero _)
    · rw [if_neg c]
def bsA (q : Option (Nat × Nat)) : Int32 := match q with
  | none => -1
  | some q => nI q.1
def bsX (q : Option (Nat × Nat)) : Int32 := match q with
  | none => 61
  | some q => nI q.2
def bsM (q : Option (Nat × Nat)) : Int32 := match q with
  | none => -1
  | some q => nI q.2
theorem bst_b {T : Tn} {u : List Nat} (hu : okW u) (hok : ∀ n, n < 1000 → (T.2 n).isSome = true → okW (nmW T n)) : ∀ n, n ≤ 1000 → ∀ q, bst T u n = some q → q.1 < n ∧ q.2 ≤ 60 := by
  intro n
  induction n with
  | zero => intro _ q h; cases h
  | succ n ih =>
    intro hn q h
    rw [bst_s] at h
    have i1 := ih (by omega)
    by_cases c : (T.2 n).isSome = true
    · have d1 : dsN T u n ≤ 60 := by
        have a1 := lev_m (gt0 u) (gt0 (runW (nmW T n))) u.length (runW (nmW T n)).length
        have a2 := (okW_run (hok n (by omega) c)).1
        have a3 := hu.1
        unfold dsN
        omega
      rw [if_pos c] at h
      cases e : bst T u n with
      | none => rw [e] at h; injection h with h; rw [← h]; exact ⟨Nat.lt_succ_self n, d1⟩
      | some z =>
        rw [e] at h
        have h : (if dsN T u n < z.2 then some (n, dsN T u n) else some z) = some q := h
        by_cases d : dsN T u n < z.2
        · rw [if_pos d] at h; injection h with h; rw [← h]; exact ⟨Nat.lt_succ_self n, d1⟩
        · rw [if_neg d] at h; injection h with h; have := i1 z e; rw [← h]; omega
    · rw [if_neg c] at h
      have := i1 q h
      omega
theorem jab_ok {a b : Nat} (ha : a < 1000) (hb : b < 1000) : jab (nI a - nI b) = nI (if b ≤ a then a - b else b - a) := by
  unfold jab
  by_cases c : b ≤ a
  · rw [if_pos c, pk_sub c, if_pos (ge0 (by omega))]
  · have h := pk_sub_toInt (a := a) (b := b) (by omega) (by omega)
    rw [if_neg c, if_neg (by rw [Int32.le_iff_toInt_le, h, show (0 : Int32).toInt = 0 by decide]; omega), Int32.zero_sub, Int32.neg_sub, pk_sub (by omega)]
theorem size_ok {F : Nat} {M : zM} : Dis_size F M = some (M.1 59 1, M) := rfl
theorem nearX {F t : Nat} {x2 : Int32} {S : Sp} {u : List Nat} {M0 M : zM} (hu : okW u) (h : RX S M) (ht : t < 3) (hP : Pl u u.length M0 M) (hF : 3000 < F) : loopN (NW_nearest_B65 F x2 (14 + 10 * t)) F (-1, 61, 0, M) = some (1, bsA (bst (S.2.2.1 t) u 1000), bsX (bst (S.2.2.1 t) u 1000), 0, M) := by
  have hT := h.2.2.2.2.2.1 t ht
  have hx := hT.2.2.2.1
  have hok : ∀ n, n < 1000 → ((S.2.2.1 t).2 n).isSome = true → okW (nmW (S.2.2.1 t) n) := fun n hn sn => ((hx n hn).at sn).1
  have lu := hu.1
  have key := loopN_inv (body := NW_nearest_B65 F x2 (14 + 10 * t)) (I := fun n s => s = (bsA (bst (S.2.2.1 t) u n), bsX (bst (S.2.2.1 t) u n), nI n, M)) (Qx := fun q => q = (1, bsA (bst (S.2.2.1 t) u 1000), bsX (bst (S.2.2.1 t) u 1000), 0, M)) (N := 1000) (F := F) (s := (-1, 61, 0, M)) (fun n s hn hs => by
    subst hs
    have bb := bst_b (T := S.2.2.1 t) hu hok n (by omega)
    unfold NW_nearest_B65
    dsimp only [lt]
    rw [if_neg (show ¬ (1000 : Int32) ≤ nI n from nI_ge (b := 1000) hn (by decide))]
    by_cases c0 : ∃ b, bst (S.2.2.1 t) u n = some (b, 0)
    · obtain ⟨b, c0⟩ := c0
      have := bst_0 c0 (1000 - n)
      rw [show n + (1000 - n) = 1000 by omega] at this
      rw [c0, if_pos (show bsX (some (b, 0)) ≤ 0 from Int32.le_refl 0), this]
      exact Or.inr ⟨_, rfl, (fun q => by cases q), rfl⟩
    · have np : ∃ d, 0 < d ∧ d ≤ 61 ∧ bsX (bst (S.2.2.1 t) u n) = nI d ∧ (∀ q, bst (S.2.2.1 t) u n = some q → q.2 = d) ∧ (bst (S.2.2.1 t) u n = none → d = 61) := by
        cases e : bst (S.2.2.1 t) u n with
        | none => exact ⟨61, by decide, by decide, rfl, fun q z => (by cases z), fun _ => rfl⟩
        | some q =>
          obtain ⟨b, d⟩ := q
          have := (bb _ e).2
          refine ⟨d, ?_, by omega, rfl, fun q z => (by injection z with z; rw [← z]), fun z => (by cases z)⟩
          rcases Nat.eq_zero_or_pos d with z | z
          · exact absurd ⟨b, by rw [e, z]⟩ c0
          · exact z
      obtain ⟨d, d1, d2, d3, d4, d5⟩ := np
      rw [d3, if_neg (show ¬ nI d ≤ 0 from nI_ge (a := 0) d1 (by omega)), has_ok hT hn, Option.bind_some, bst_s]
      dsimp only
      cases c : ((S.2.2.1 t).2 n).isSome with
      | false =>
        rw [if_pos (by decide), if_neg (by decide), nI_1]
        exact Or.inl ⟨_, rfl, by rw [d3]⟩
      | true =>
        obtain ⟨k1, k2, -⟩ := (hx n hn).at c
        have k3 := (okW_run k1).1
        have lb := lev_b (gt0 u) (gt0 (runW (nmW (S.2.2.1 t) n))) u.length (runW (nmW (S.2.2.1 t) n)).length
        have lm := lev_m (gt0 u) (gt0 (runW (nmW (S.2.2.1 t) n))) u.length (runW (nmW (S.2.2.1 t) n)).length
        have hd : dsN (S.2.2.1 t) u n = lev (gt0 u) (gt0 (runW (nmW (S.2.2.1 t) n))) u.length (runW (nmW (S.2.2.1 t) n)).length := rfl
        have lt1 : Ton_lettersOf F (14 + 10 * t) (nI n) M = some (nI (runW (nmW (S.2.2.1 t) n)).length, M) := by
          unfold Ton_lettersOf
          rw [has_ok hT hn, c, Option.bind_some]
          dsimp only
          rw [if_neg (by decide), if_pos (inb_nI hn (by decide)), nI_clamp (by omega), k2]
        rw [if_neg (by decide), if_pos rfl, lt1, Option.bind_some]
        dsimp only
        rw [size_ok, Option.bind_some, hP.2.2.1]
        dsimp only
        rw [jab_ok (by omega) (by omega), nI_1]
        rw [← hd] at lb lm
        have keep : d ≤ dsN (S.2.2.1 t) u n → (match bst (S.2.2.1 t) u n with
            | none => some (n, dsN (S.2.2.1 t) u n)
            | some q => if dsN (S.2.2.1 t) u n < q.2 then some (n, dsN (S.2.2.1 t) u n) else some q) = bst (S.2.2.1 t) u n := fun hq => by
          cases e : bst (S.2.2.1 t) u n with
          | none => have := d5 e; omega
          | some q => exact if_neg (by have := d4 q e; omega)
        by_cases cs : d ≤ (if u.length ≤ (runW (nmW (S.2.2.1 t) n)).length then (runW (nmW (S.2.2.1 t) n)).length - u.length else u.length - (runW (nmW (S.2.2.1 t) n)).length)
        · rw [if_pos (nI_le cs (by split <;> omega)), keep (by split at cs <;> omega)]
          exact Or.inl ⟨_, rfl, by rw [d3]⟩
        · rw [if_neg (nI_ge (by omega) (by omega)), farX (F := F) hu hP (hx n hn) ht hn c hF, Option.bind_some, ← hd]
          dsimp only
          by_cases cf : d ≤ dsN (S.2.2.1 t) u n
          · rw [if_pos (nI_le cf (by omega)), keep cf]
            exact Or.inl ⟨_, rfl, by rw [d3]⟩
          · rw [if_neg (nI_ge (by omega) (by omega))]
            have upd : (match bst (S.2.2.1 t) u n with
              | none => some (n, dsN (S.2.2.1 t) u n)
              | some q => if dsN (S.2.2.1 t) u n < q.2 then some (n, dsN (S.2.2.1 t) u n) else some q) = some (n, dsN (S.2.2.1 t) u n) := by
              cases e : bst (S.2.2.1 t) u n with
              | none => rfl
              | some q => exact if_pos (by have := d4 q e; omega)
            rw [upd]
            exact Or.inl ⟨_, rfl, rfl⟩) (fun s hs => by
    subst hs
    refine ⟨_, ?_, (fun q => by cases q), rfl⟩
    unfold NW_nearest_B65
    dsimp only
    rw [if_pos (show (1000 : Int32) ≤ nI 1000 by decide)]) (by omega) rfl
  obtain ⟨q, e, rfl⟩ := key
  exact e
theorem nearM {F t : Nat} {x2 : Int32} {T : Tn} {u : List Nat} {M : zM} (hu : okW u) (hT : ∀ n, n < 1000 → MN (1000 * t + n) (T.2 n) M) (hok : ∀ n, n < 1000 → ∀ w b d, T.2 n = some (w, b, d) → okW w) (ht : t < 3) (h93 : ∀ j, j < u.length → M.1 93 j = nI (u.getD j 0)) (hF : 3000 < F) : ∃ M1, loopN (Mod_nearest_B43 F (nI t) x2 (nI u.length)) F (-1, -1, 0, M) = some (1, bsA (bst T u 1000), bsM (bst T u 1000), 0, M1) ∧ f9x M M1 := by
  have ok : ∀ n, n < 1000 → (T.2 n).isSome = true → okW (nmW T n) := fun n hn sn => by
    obtain ⟨⟨w, b, d⟩, e⟩ := Option.isSome_iff_exists.mp sn
    have n1 : nmW T n = w := by unfold nmW; rw [e]
    rw [n1]; exact hok n hn w b d e
  have o1 : ∀ n, n < 1000 → ∀ z, T.2 n = some z → okW z.1 := fun n hn z e => hok n hn z.1 z.2.1 z.2.2 e
  have key := loopN_inv (body := Mod_nearest_B43 F (nI t) x2 (nI u.length)) (I := fun n s => ∃ M1, s = (bsA (bst T u n), bsM (bst T u n), nI n, M1) ∧ f9x M M1 ∧ ∀ j, j < u.length → M1.1 93 j = nI (u.getD j 0)) (Qx := fun q => ∃ M1, q = (1, bsA (bst T u 1000), bsM (bst T u 1000), 0, M1) ∧ f9x M M1) (N := 1000) (F := F) (s := (-1, -1, 0, M)) (fun n s hn hs => by
    obtain ⟨M1, rfl, f1, g1⟩ := hs
    have bb := bst_b (T := T) hu ok n (by omega)
    have e1 : inb (nI (1000 * t + n)) 3000 = true := inb_nI (by omega) (by decide)
    have e2 : (nI (1000 * t + n)).toNatClampNeg = 1000 * t + n := nI_clamp (by omega)
    have hm := f1.mn (hT n hn)
    refine Or.inl ?_
    unfold Mod_nearest_B43
    dsimp only [lt]
    rw [if_neg (show ¬ (1000 : Int32) ≤ nI n from nI_ge (b := 1000) hn (by decide)), ix_t, if_pos e1, e2, bst_s, nI_1]
    cases c : (T.2 n).isSome with
    | false =>
      rw [isNn c] at hm
      rw [hm.1, if_pos (by decide), if_neg (by decide)]
      exact ⟨_, rfl, M1, rfl, f1, g1⟩
    | true =>
      have k1 := ok n hn c
      have l1 := k1.1
      obtain ⟨M2, q2, c2⟩ := runOf_ok (F := F) (a := 92) hm (o1 n hn) ht hn (Or.inl rfl) hF
      rw [(hm.at c).2] at q2 c2
      have g2 : ∀ j, j < u.length → M2.1 93 j = nI (u.getD j 0) := fun j hj => by rw [c2.1 93 (by decide)]; exact g1 j hj
      obtain ⟨M3, q3, c3⟩ := dist_ok (F := F) (M := M2) (okW_run k1) hu c2.2.2 g2 hF
      have hd : lev (gt0 (runW (nmW T n))) (gt0 u) (runW (nmW T n)).length u.length = dsN T u n := lev_sym _ _ _ _
      rw [hd] at q3
      have lm := lev_m (gt0 u) (gt0 (runW (nmW T n))) u.length (runW (nmW T n)).length
      have hd2 : dsN T u n = lev (gt0 u) (gt0 (runW (nmW T n))) u.length (runW (nmW T n)).length := rfl
      rw [← hd2] at lm
      have lu := hu.1
      have l2 := (okW_run k1).1
      have fx : f9x M M3 := (f1.tr (c2.f9 (Or.inl rfl))).tr c3.f9
      have g3 : ∀ j, j < u.length → M3.1 93 j = nI (u.getD j 0) := fun j hj => by rw [c3.1 93 (by decide)]; exact g2 j hj
      rw [(hm.at c).1, if_neg (nI_pos (by omega)), q2, Option.bind_some]
      dsimp only
      rw [q3, Option.bind_some, if_pos rfl]
      dsimp only
      cases e : bst T u n with
      | none =>
        rw [if_pos (show bsA none < 0 by decide)]
        exact ⟨_, rfl, M3, rfl, fx, g3⟩
      | some q =>
        have hq := bb q e
        rw [if_neg (show ¬ bsA (some q) < 0 from nI_pos (n := q.1) (by omega))]
        by_cases cf : dsN T u n < q.2
        · rw [if_neg (show ¬ bsM (some q) ≤ nI (dsN T u n) from nI_ge (b := q.2) cf (by omega))]
          refine ⟨_, rfl, M3, ?_, fx, g3⟩
          dsimp only
          rw [if_pos cf]; rfl
        · rw [if_pos (show bsM (some q) ≤ nI (dsN T u n) from nI_le (a := q.2) (by omega) (by omega))]
          refine ⟨_, rfl, M3, ?_, fx, g3⟩
          dsimp only
          rw [if_neg cf]) (fun s hs => by
    obtain ⟨M1, rfl, f1, g1⟩ := hs
    refine ⟨_, ?_, (fun q => by cases q), M1, rfl, f1⟩
    unfold Mod_nearest_B43
    dsimp only
    rw [if_pos (show (1000 : Int32) ≤ nI 1000 by decide)]) (by omega) ⟨M, rfl, f9x.rf, h93⟩
  obtain ⟨q, e, M1, rfl, r⟩ := key
  exact ⟨M1, e, r⟩
theorem inb_2 {y : Int32} : inb y 2 = true ↔ y = 0 ∨ y = 1 := by
  constructor
  · intro h
    obtain ⟨k, hk, rfl⟩ := inb_of h (by decide)
    rcases (show k = 0 ∨ k = 1 by omega) with rfl | rfl
    · exact Or.inl rfl
    · exact Or.inr rfl
  · rintro (rfl | rfl) <;> decide
theorem ok_nearest {F : Nat} (hF : 3000 < F) (x y : Int32) : Good (NW_nearest F x y) (Mod_nearest F x y) := by
  cases h1 : inb x 3 with
  | false => exact mkGood0 (fun _ => -1001) (fun S M h => by simp [NW_nearest, NW_isTongue_ok, h1, bI]) (fun S M h0 h => by simp [Mod_nearest, Mod_isTongue_ok, h1, bI])
  | true =>
    obtain ⟨t, ht, rfl⟩ := inb_of h1 (by decide)
    have sm : ∀ M, Mod_nearest F (nI t) y M = if bI (inb y 2) = 0 then some (-1002, M) else (Mod_draftRun F 93 M).bind fun (r_9, M_10) => (loopN (Mod_nearest_B43 F (nI t) y r_9) F ((-1), (-1), 0, M_10)).bind fun (k_35, x3_31, x4_32, x6_33, M_34) => if k_35 = 1 then if y = 0 then some (x3_31, M_34) else some (x4_32, M_34) else none := fun M => by
      unfold Mod_nearest
      rw [Mod_isTongue_ok, h1, Option.bind_some]
      dsimp only
      rw [if_neg (by decide), Mod_in_ok, in_inb (n := 2) (by decide), Option.bind_some]
    cases h2 : inb y 2 with
    | false =>
      refine mkGood0 (fun _ => -1002) (fun S M h => ?_) (fun S M h0 h => by rw [sm, h2]; rfl)
      have n0 : ¬ y = 0 := fun q => by rw [inb_2.mpr (Or.inl q)] at h2; cases h2
      have n1 : ¬ y = 1 := fun q => by rw [inb_2.mpr (Or.inr q)] at h2; cases h2
      unfold NW_nearest
      rw [NW_isTongue_ok, h1, Option.bind_some]
      dsimp only
      rw [if_neg (by decide), if_neg n0, if_neg n1]
    | true =>
      refine mkGood (fun S => (if y = 0 then bsA (bst (S.2.2.1 t) (runW S.2.2.2) 1000) else bsM (bst (S.2.2.1 t) (runW S.2.2.2) 1000), S)) (fun S M h => ?_) (fun S M h0 h => ?_)
      · have hu : okW (runW S.2.2.2) := h.2.2.2.2.2.2.2.1
        have sx : NW_nearest F (nI t) y M = NW_nearest_J24 F (nI t) y M := by
          unfold NW_nearest
          rw [NW_isTongue_ok, h1, Option.bind_some]
          dsimp only
          rw [if_neg (by decide)]
          by_cases q : y = 0
          · rw [if_pos q]
          · rw [if_neg q]
            rcases inb_2.mp h2 with z | z
            · exact absurd z q
            · rw [if_pos z]
        obtain ⟨M1, e1, r1, s1, k1⟩ := key_ok (F := F) (b := 55) (u := runW S.2.2.2) h (Or.inr rfl) h.2.2.2.2.2.2.2 hF
        obtain ⟨M2, e2, p2⟩ := from_ok (F := F) (a := 57) (n := 0) (M := M1) hu (by decide) (by decide) (by decide) (fun i hi => by rw [show 5 * 0 + i = i by omega]; exact k1 i hi) hF
        have r2 := p2.f.rx r1
        have e2 : Dis_from F 57 0 M1 = some ((), M2) := e2
        have bb := bst_b (T := S.2.2.1 t) hu (fun n hn sn => (((h.2.2.2.2.2.1 t ht).2.2.2.1 n hn).at sn).1) 1000 (Nat.le_refl _)
        refine ⟨M2, ?_, r2, s1.tr p2.f.hi⟩
        rw [sx]
        unfold NW_nearest_J24
        rw [e1, Option.bind_some]
        dsimp only
        rw [e2, Option.bind_some]
        dsimp only
        rw [if_pos (show inb (nI t) 3 = true from h1), tgA_n t ht, nearX (F := F) (x2 := y) hu r2 ht p2 hF, Option.bind_some]
        dsimp only
        rw [if_pos rfl]
        unfold NW_nearest_J142
        by_cases q : y = 0
        · rw [if_pos q, if_pos q]
        · rw [if_neg q, if_neg q]
          cases e : bst (S.2.2.1 t) (runW S.2.2.2) 1000 with
          | none => rfl
          | some z =>
            have := (bb z e).1
            rw [if_neg (show ¬ bsA (some z) = -1 from nlen_ne (by omega))]
            rfl
      · have hu : okW (runW S.2.2.2) := okW_run h0.2.2.2
        obtain ⟨M1, e1, c1⟩ := draftRun_ok (F := F) (a := 93) h0 h (Or.inr rfl) hF
        have f1 := c1.f9 (Or.inr rfl)
        obtain ⟨M2, e2, f2⟩ := nearM (F := F) (t := t) (x2 := y) (T := S.2.2.1 t) (M := M1) hu (fun n hn => f1.mn ((h.2.2.2.1 t ht).2 n hn)) (okT h0 ht) ht c1.2.2 hF
        have fx := f1.tr f2
        refine ⟨M2, ?_, fx.rm h, fx.lo⟩
        rw [sm, h2, if_neg (by decide), e1, Option.bind_some]
        dsimp only
        rw [e2, Option.bind_some]
        dsimp only
        rw [if_pos rfl]
        by_cases q : y = 0
        · rw [if_pos q, if_pos q]
        · rw [if_neg q, if_neg q]

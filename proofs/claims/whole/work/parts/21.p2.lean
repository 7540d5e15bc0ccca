/-! ===== loops by what they keep; an operation that both sides answer alike ===== -/
theorem loopN_inv {σ : Type} {body : σ → Option (Nat × σ)} {I : Nat → σ → Prop} {Qx : Nat × σ → Prop} {N : Nat} : ∀ {F : Nat} {s : σ}, (∀ i s, i < N → I i s → (∃ s', body s = some (0, s') ∧ I (i + 1) s') ∨ ∃ q, body s = some q ∧ q.1 ≠ 0 ∧ Qx q) → (∀ s, I N s → ∃ q, body s = some q ∧ q.1 ≠ 0 ∧ Qx q) → N < F → I 0 s → ∃ q, loopN body F s = some q ∧ Qx q := by
  intro F s hs hx hF h0
  have key : ∀ (k i : Nat) (s : σ) (F : Nat), i + k = N → k < F → I i s → ∃ q, loopN body F s = some q ∧ Qx q := by
    intro k
    induction k with
    | zero =>
      intro i s F hi hF hI
      obtain ⟨q, h1, h2, h3⟩ := hx s (by rw [← hi]; exact hI)
      cases F with
      | zero => omega
      | succ F => exact ⟨q, by simp [loopN, h1, h2], h3⟩
    | succ k ih =>
      intro i s F hi hF hI
      cases F with
      | zero => omega
      | succ F =>
        rcases hs i s (by omega) hI with ⟨s', h1, h2⟩ | ⟨q, h1, h2, h3⟩
        · obtain ⟨q, h3, h4⟩ := ih (i + 1) s' F (by omega) (by omega) h2
          exact ⟨q, by simp [loopN, h1, h3], h4⟩
        · exact ⟨q, by simp [loopN, h1, h2], h3⟩
  exact key N 0 s F (by omega) hF h0
def Good (f g : zM → Option (Int32 × zM)) : Prop := ∀ M, Inv M → ∃ r M1 M2, f M = some (r, M1) ∧ g M1 = some (r, M2) ∧ Inv M2
/-- what a state of both is, beside the memory -/
def okS (S : Sp) : Prop := S.1.length ≤ 240 ∧ (∀ k ∈ S.1, k < 256) ∧ (∀ t, t < 3 → (S.2.2.1 t).1 ≤ 12 ∧ ∀ n, n < 1000 → ∀ w b d, (S.2.2.1 t).2 n = some (w, b, d) → okW w ∧ b < 12 ∧ 1 ≤ d ∧ d ≤ 8) ∧ okW S.2.2.2
theorem RX.ok {S : Sp} {M : zM} (h : RX S M) : okS S := by
  obtain ⟨h1, h2, h3, h4, h5, h6, h7, h8⟩ := h
  refine ⟨h1, h2, fun t ht => ⟨(h6 t ht).1, fun n hn w b d e => ?_⟩, h7.1⟩
  have := (h6 t ht).2.2.2.1 n hn
  unfold XN at this
  rw [e] at this
  exact ⟨this.1, this.2.1, this.2.2.1, this.2.2.2.1⟩
theorem mkGood {f g : zM → Option (Int32 × zM)} (sp : Sp → Int32 × Sp) (hx : ∀ S M, RX S M → ∃ M1, f M = some ((sp S).1, M1) ∧ RX (sp S).2 M1 ∧ sameHi M M1) (hm : ∀ S M, okS S → RM S M → ∃ M2, g M = some ((sp S).1, M2) ∧ RM (sp S).2 M2 ∧ sameLo M M2) : Good f g := by
  intro M ⟨S, h1, h2⟩
  obtain ⟨M1, e1, r1, s1⟩ := hx S M h1
  obtain ⟨M2, e2, r2, s2⟩ := hm S M1 h1.ok (h2.same s1)
  exact ⟨_, M1, M2, e1, e2, _, r1.same s2, r2⟩
/-- nothing changes -/
theorem mkGood0 {f g : zM → Option (Int32 × zM)} (sp : Sp → Int32) (hx : ∀ S M, RX S M → f M = some (sp S, M)) (hm : ∀ S M, okS S → RM S M → g M = some (sp S, M)) : Good f g :=
  mkGood (fun S => (sp S, S)) (fun S M h => ⟨M, hx S M h, h, sameHi.rf⟩) (fun S M h0 h => ⟨M, hm S M h0 h, h, sameLo.rf⟩)
set_option maxHeartbeats 4000000 in
set_option maxRecDepth 100000 in
theorem law_body {F b L : Nat} {xs : Nat → Int32} (hL : L ≤ 2560) (h0 : ∀ (x : Int32) (y : Int64), Good (NW_feed F x y) (Mod_feed F x y)) (h1 : ∀ (a : Int32), Good (NW_read F a) (Mod_read F a)) (h2 : Good (NW_fault F ) (Mod_fault F )) (h3 : ∀ (a b : Int32), Good (NW_about F a b) (Mod_about F a b)) (h4 : ∀ (a b c : Int32), Good (NW_name F a b c) (Mod_name F a b c)) (h5 : ∀ (a b : Int32), Good (NW_letters F a b) (Mod_letters F a b)) (h6 : ∀ (a b : Int32), Good (NW_by F a b) (Mod_by F a b)) (h7 : ∀ (a b : Int32), Good (NW_deep F a b) (Mod_deep F a b)) (h8 : ∀ (a b c d : Int32), Good (NW_uses F a b c d) (Mod_uses F a b c d)) (h9 : ∀ (a b : Int32), Good (NW_first F a b) (Mod_first F a b)) (h10 : ∀ (a b c : Int32), Good (NW_song F a b c) (Mod_song F a b c)) (h11 : ∀ (a b : Int32), Good (NW_order F a b) (Mod_order F a b)) (h12 : ∀ (a b : Int32), Good (NW_place F a b) (Mod_place F a b)) (h13 : ∀ (a b : Int32), Good (NW_twins F a b) (Mod_twins F a b)) (h14 : ∀ (a : Int32), Good (NW_write F a) (Mod_write F a)) (h15 : Good (NW_clear F ) (Mod_clear F )) (h16 : ∀ (x y z : Int32), (y = 0 ∨ y = 1) → Good (NW_find F x y z) (Mod_find F x y z)) (h17 : ∀ (a b : Int32), Good (NW_nearest F a b) (Mod_nearest F a b)) (h18 : ∀ (a b c : Int32), Good (NW_led F a b c) (Mod_led F a b c)) (h19 : ∀ (a b c : Int32), Good (NW_chain F a b c) (Mod_chain F a b c)) (h20 : ∀ (a b : Int32), Good (NW_honest F a b) (Mod_honest F a b)) (h21 : ∀ (a b c : Int32), Good (NW_far F a b c) (Mod_far F a b c)) (h22 : ∀ (a b c d : Int32), Good (NW_mixed F a b c d) (Mod_mixed F a b c d)) (h23 : ∀ (a b c d : Int32), Good (NW_square F a b c d) (Mod_square F a b c d)) (h24 : ∀ (a b : Int32), Good (NW_squares F a b) (Mod_squares F a b)) {i : Nat} (hi : 5 * i + 5 ≤ L) {M : zM} (hI : Inv M) : ∃ M', Law_law_B18 F b L xs (nI (5 * i), M) = some (0, nI (5 * (i + 1)), M') ∧ Inv M' := by
  have hx : ∀ k : Nat, k < 5 → inb (nI (5 * i) + nI k) L = true := fun k hk => by rw [nI_add]; exact inb_nI (by omega) (by omega)
  have hx0 : inb (nI (5 * i)) L = true := inb_nI (by omega) (by omega)
  have e1 : inb (nI (5 * i) + 1) L = true := hx 1 (by decide)
  have e2 : inb (nI (5 * i) + 2) L = true := hx 2 (by decide)
  have e3 : inb (nI (5 * i) + 3) L = true := hx 3 (by decide)
  have e4 : inb (nI (5 * i) + 4) L = true := hx 4 (by decide)
  have e5 : nI (5 * i) + 5 = nI (5 * (i + 1)) := by rw [show (5 : Int32) = nI 5 from rfl, nI_add]; rfl
  have e0 : ¬ (Int32.ofNat L - 5) < nI (5 * i) := by
    rw [show Int32.ofNat L - 5 = nI (L - 5) from pk_sub (a := L) (b := 5) (by omega)]
    exact nI_nlt (by omega) (by omega)
  unfold Law_law_B18
  dsimp only [lt]
  rw [if_neg e0, if_pos hx0]
  by_cases c0 : (xs (nI (5 * i)).toNatClampNeg) &&& 31 = 0
  · rw [if_pos c0, if_pos e1, if_pos e2, if_pos e3]
    obtain ⟨r, M1, M2, q1, q2, q3⟩ := h0 _ _ M hI
    rw [q1, Option.bind_some]
    dsimp only
    rw [q2, Option.bind_some]
    dsimp only
    rw [if_pos rfl, e5]
    exact ⟨M2, rfl, q3⟩
  rw [if_neg c0]
  by_cases c1 : (xs (nI (5 * i)).toNatClampNeg) &&& 31 = 1
  · rw [if_pos c1, if_pos e1]
    obtain ⟨r, M1, M2, q1, q2, q3⟩ := h1 _ M hI
    rw [q1, Option.bind_some]
    dsimp only
    rw [q2, Option.bind_some]
    dsimp only
    rw [if_pos rfl, e5]
    exact ⟨M2, rfl, q3⟩
  rw [if_neg c1]
  by_cases c2 : (xs (nI (5 * i)).toNatClampNeg) &&& 31 = 2
  · rw [if_pos c2]
    obtain ⟨r, M1, M2, q1, q2, q3⟩ := h2  M hI
    rw [q1, Option.bind_some]
    dsimp only
    rw [q2, Option.bind_some]
    dsimp only
    rw [if_pos rfl, e5]
    exact ⟨M2, rfl, q3⟩
  rw [if_neg c2]
  by_cases c3 : (xs (nI (5 * i)).toNatClampNeg) &&& 31 = 3
  · rw [if_pos c3, if_pos e1, if_pos e2]
    obtain ⟨r, M1, M2, q1, q2, q3⟩ := h3 _ _ M hI
    rw [q1, Option.bind_some]
    dsimp only
    rw [q2, Option.bind_some]
    dsimp only
    rw [if_pos rfl, e5]
    exact ⟨M2, rfl, q3⟩
  rw [if_neg c3]
  by_cases c4 : (xs (nI (5 * i)).toNatClampNeg) &&& 31 = 4
  · rw [if_pos c4, if_pos e1, if_pos e2, if_pos e3]
    obtain ⟨r, M1, M2, q1, q2, q3⟩ := h4 _ _ _ M hI
    rw [q1, Option.bind_some]
    dsimp only
    rw [q2, Option.bind_some]
    dsimp only
    rw [if_pos rfl, e5]
    exact ⟨M2, rfl, q3⟩
  rw [if_neg c4]
  by_cases c5 : (xs (nI (5 * i)).toNatClampNeg) &&& 31 = 5
  · rw [if_pos c5, if_pos e1, if_pos e2]
    obtain ⟨r, M1, M2, q1, q2, q3⟩ := h5 _ _ M hI
    rw [q1, Option.bind_some]
    dsimp only
    rw [q2, Option.bind_some]
    dsimp only
    rw [if_pos rfl, e5]
    exact ⟨M2, rfl, q3⟩
  rw [if_neg c5]
  by_cases c6 : (xs (nI (5 * i)).toNatClampNeg) &&& 31 = 6
  · rw [if_pos c6, if_pos e1, if_pos e2]
    obtain ⟨r, M1, M2, q1, q2, q3⟩ := h6 _ _ M hI
    rw [q1, Option.bind_some]
    dsimp only
    rw [q2, Option.bind_some]
    dsimp only
    rw [if_pos rfl, e5]
    exact ⟨M2, rfl, q3⟩
  rw [if_neg c6]
  by_cases c7 : (xs (nI (5 * i)).toNatClampNeg) &&& 31 = 7
  · rw [if_pos c7, if_pos e1, if_pos e2]
    obtain ⟨r, M1, M2, q1, q2, q3⟩ := h7 _ _ M hI
    rw [q1, Option.bind_some]
    dsimp only
    rw [q2, Option.bind_some]
    dsimp only
    rw [if_pos rfl, e5]
    exact ⟨M2, rfl, q3⟩
  rw [if_neg c7]
  by_cases c8 : (xs (nI (5 * i)).toNatClampNeg) &&& 31 = 8
  · rw [if_pos c8, if_pos e1, if_pos e2, if_pos e3, if_pos e4]
    obtain ⟨r, M1, M2, q1, q2, q3⟩ := h8 _ _ _ _ M hI
    rw [q1, Option.bind_some]
    dsimp only
    rw [q2, Option.bind_some]
    dsimp only
    rw [if_pos rfl, e5]
    exact ⟨M2, rfl, q3⟩
  rw [if_neg c8]
  by_cases c9 : (xs (nI (5 * i)).toNatClampNeg) &&& 31 = 9
  · rw [if_pos c9, if_pos e1, if_pos e2]
    obtain ⟨r, M1, M2, q1, q2, q3⟩ := h9 _ _ M hI
    rw [q1, Option.bind_some]
    dsimp only
    rw [q2, Option.bind_some]
    dsimp only
    rw [if_pos rfl, e5]
    exact ⟨M2, rfl, q3⟩
  rw [if_neg c9]
  by_cases c10 : (xs (nI (5 * i)).toNatClampNeg) &&& 31 = 10
  · rw [if_pos c10, if_pos e1, if_pos e2, if_pos e3]
    obtain ⟨r, M1, M2, q1, q2, q3⟩ := h10 _ _ _ M hI
    rw [q1, Option.bind_some]
    dsimp only
    rw [q2, Option.bind_some]
    dsimp only
    rw [if_pos rfl, e5]
    exact ⟨M2, rfl, q3⟩
  rw [if_neg c10]
  by_cases c11 : (xs (nI (5 * i)).toNatClampNeg) &&& 31 = 11
  · rw [if_pos c11, if_pos e1, if_pos e2]
    obtain ⟨r, M1, M2, q1, q2, q3⟩ := h11 _ _ M hI
    rw [q1, Option.bind_some]
    dsimp only
    rw [q2, Option.bind_some]
    dsimp only
    rw [if_pos rfl, e5]
    exact ⟨M2, rfl, q3⟩
  rw [if_neg c11]
  by_cases c12 : (xs (nI (5 * i)).toNatClampNeg) &&& 31 = 12
  · rw [if_pos c12, if_pos e1, if_pos e2]
    obtain ⟨r, M1, M2, q1, q2, q3⟩ := h12 _ _ M hI
    rw [q1, Option.bind_some]
    dsimp only
    rw [q2, Option.bind_some]
    dsimp only
    rw [if_pos rfl, e5]
    exact ⟨M2, rfl, q3⟩
  rw [if_neg c12]
  by_cases c13 : (xs (nI (5 * i)).toNatClampNeg) &&& 31 = 13
  · rw [if_pos c13, if_pos e1, if_pos e2]
    obtain ⟨r, M1, M2, q1, q2, q3⟩ := h13 _ _ M hI
    rw [q1, Option.bind_some]
    dsimp only
    rw [q2, Option.bind_some]
    dsimp only
    rw [if_pos rfl, e5]
    exact ⟨M2, rfl, q3⟩
  rw [if_neg c13]
  by_cases c14 : (xs (nI (5 * i)).toNatClampNeg) &&& 31 = 14
  · rw [if_pos c14, if_pos e1]
    obtain ⟨r, M1, M2, q1, q2, q3⟩ := h14 _ M hI
    rw [q1, Option.bind_some]
    dsimp only
    rw [q2, Option.bind_some]
    dsimp only
    rw [if_pos rfl, e5]
    exact ⟨M2, rfl, q3⟩
  rw [if_neg c14]
  by_cases c15 : (xs (nI (5 * i)).toNatClampNeg) &&& 31 = 15
  · rw [if_pos c15]
    obtain ⟨r, M1, M2, q1, q2, q3⟩ := h15  M hI
    rw [q1, Option.bind_some]
    dsimp only
    rw [q2, Option.bind_some]
    dsimp only
    rw [if_pos rfl, e5]
    exact ⟨M2, rfl, q3⟩
  rw [if_neg c15]
  by_cases c16 : (xs (nI (5 * i)).toNatClampNeg) &&& 31 = 16
  · rw [if_pos c16, if_pos e1, if_pos e2]
    by_cases cz : xs (nI (5 * i) + 2).toNatClampNeg = 0
    · obtain ⟨r, M1, M2, q1, q2, q3⟩ := h16 (xs (nI (5 * i) + 1).toNatClampNeg) 0 (xs (nI (5 * i) + 3).toNatClampNeg) (Or.inl rfl) M hI
      rw [if_pos cz]
      unfold Law_law_J705 Law_law_J732
      rw [if_pos e3, q1, Option.bind_some]
      dsimp only [lt]
      rw [if_pos e1, if_pos e2, if_pos cz, if_pos e3, q2, Option.bind_some]
      dsimp only
      rw [if_pos rfl, e5]
      exact ⟨M2, rfl, q3⟩
    · obtain ⟨r, M1, M2, q1, q2, q3⟩ := h16 (xs (nI (5 * i) + 1).toNatClampNeg) 1 (xs (nI (5 * i) + 3).toNatClampNeg) (Or.inr rfl) M hI
      rw [if_neg cz]
      unfold Law_law_J705 Law_law_J732
      rw [if_pos e3, q1, Option.bind_some]
      dsimp only [lt]
      rw [if_pos e1, if_pos e2, if_neg cz, if_pos e3, q2, Option.bind_some]
      dsimp only
      rw [if_pos rfl, e5]
      exact ⟨M2, rfl, q3⟩
  rw [if_neg c16]
  by_cases c17 : (xs (nI (5 * i)).toNatClampNeg) &&& 31 = 17
  · rw [if_pos c17, if_pos e1, if_pos e2]
    obtain ⟨r, M1, M2, q1, q2, q3⟩ := h17 _ _ M hI
    rw [q1, Option.bind_some]
    dsimp only
    rw [q2, Option.bind_some]
    dsimp only
    rw [if_pos rfl, e5]
    exact ⟨M2, rfl, q3⟩
  rw [if_neg c17]
  by_cases c18 : (xs (nI (5 * i)).toNatClampNeg) &&& 31 = 18
  · rw [if_pos c18, if_pos e1, if_pos e2, if_pos e3]
    obtain ⟨r, M1, M2, q1, q2, q3⟩ := h18 _ _ _ M hI
    rw [q1, Option.bind_some]
    dsimp only
    rw [q2, Option.bind_some]
    dsimp only
    rw [if_pos rfl, e5]
    exact ⟨M2, rfl, q3⟩
  rw [if_neg c18]
  by_cases c19 : (xs (nI (5 * i)).toNatClampNeg) &&& 31 = 19
  · rw [if_pos c19, if_pos e1, if_pos e2, if_pos e3]
    obtain ⟨r, M1, M2, q1, q2, q3⟩ := h19 _ _ _ M hI
    rw [q1, Option.bind_some]
    dsimp only
    rw [q2, Option.bind_some]
    dsimp only
    rw [if_pos rfl, e5]
    exact ⟨M2, rfl, q3⟩
  rw [if_neg c19]
  by_cases c20 : (xs (nI (5 * i)).toNatClampNeg) &&& 31 = 20
  · rw [if_pos c20, if_pos e1, if_pos e2]
    obtain ⟨r, M1, M2, q1, q2, q3⟩ := h20 _ _ M hI
    rw [q1, Option.bind_some]
    dsimp only
    rw [q2, Option.bind_some]
    dsimp only
    rw [if_pos rfl, e5]
    exact ⟨M2, rfl, q3⟩
  rw [if_neg c20]
  by_cases c21 : (xs (nI (5 * i)).toNatClampNeg) &&& 31 = 21
  · rw [if_pos c21, if_pos e1, if_pos e2, if_pos e3]
    obtain ⟨r, M1, M2, q1, q2, q3⟩ := h21 _ _ _ M hI
    rw [q1, Option.bind_some]
    dsimp only
    rw [q2, Option.bind_some]
    dsimp only
    rw [if_pos rfl, e5]
    exact ⟨M2, rfl, q3⟩
  rw [if_neg c21]
  by_cases c22 : (xs (nI (5 * i)).toNatClampNeg) &&& 31 = 22
  · rw [if_pos c22, if_pos e1, if_pos e2, if_pos e3, if_pos e4]
    obtain ⟨r, M1, M2, q1, q2, q3⟩ := h22 _ _ _ _ M hI
    rw [q1, Option.bind_some]
    dsimp only
    rw [q2, Option.bind_some]
    dsimp only
    rw [if_pos rfl, e5]
    exact ⟨M2, rfl, q3⟩
  rw [if_neg c22]
  by_cases c23 : (xs (nI (5 * i)).toNatClampNeg) &&& 31 = 23
  · rw [if_pos c23, if_pos e1, if_pos e2, if_pos e3, if_pos e4]
    obtain ⟨r, M1, M2, q1, q2, q3⟩ := h23 _ _ _ _ M hI
    rw [q1, Option.bind_some]
    dsimp only
    rw [q2, Option.bind_some]
    dsimp only
    rw [if_pos rfl, e5]
    exact ⟨M2, rfl, q3⟩
  rw [if_neg c23]
  by_cases c24 : (xs (nI (5 * i)).toNatClampNeg) &&& 31 = 24
  · rw [if_pos c24, if_pos e1, if_pos e2]
    obtain ⟨r, M1, M2, q1, q2, q3⟩ := h24 _ _ M hI
    rw [q1, Option.bind_some]
    dsimp only
    rw [q2, Option.bind_some]
    dsimp only
    rw [if_pos rfl, e5]
    exact ⟨M2, rfl, q3⟩
  rw [if_neg c24]
  rw [e5]
  exact ⟨M, rfl, hI⟩
set_option maxHeartbeats 4000000 in
theorem law_fin {F b L : Nat} {xs : Nat → Int32} (hF : 3000 < F) (hL : L ≤ 2560) (hI0 : Inv xM3) (h0 : ∀ (x : Int32) (y : Int64), Good (NW_feed F x y) (Mod_feed F x y)) (h1 : ∀ (a : Int32), Good (NW_read F a) (Mod_read F a)) (h2 : Good (NW_fault F ) (Mod_fault F )) (h3 : ∀ (a b : Int32), Good (NW_about F a b) (Mod_about F a b)) (h4 : ∀ (a b c : Int32), Good (NW_name F a b c) (Mod_name F a b c)) (h5 : ∀ (a b : Int32), Good (NW_letters F a b) (Mod_letters F a b)) (h6 : ∀ (a b : Int32), Good (NW_by F a b) (Mod_by F a b)) (h7 : ∀ (a b : Int32), Good (NW_deep F a b) (Mod_deep F a b)) (h8 : ∀ (a b c d : Int32), Good (NW_uses F a b c d) (Mod_uses F a b c d)) (h9 : ∀ (a b : Int32), Good (NW_first F a b) (Mod_first F a b)) (h10 : ∀ (a b c : Int32), Good (NW_song F a b c) (Mod_song F a b c)) (h11 : ∀ (a b : Int32), Good (NW_order F a b) (Mod_order F a b)) (h12 : ∀ (a b : Int32), Good (NW_place F a b) (Mod_place F a b)) (h13 : ∀ (a b : Int32), Good (NW_twins F a b) (Mod_twins F a b)) (h14 : ∀ (a : Int32), Good (NW_write F a) (Mod_write F a)) (h15 : Good (NW_clear F ) (Mod_clear F )) (h16 : ∀ (x y z : Int32), (y = 0 ∨ y = 1) → Good (NW_find F x y z) (Mod_find F x y z)) (h17 : ∀ (a b : Int32), Good (NW_nearest F a b) (Mod_nearest F a b)) (h18 : ∀ (a b c : Int32), Good (NW_led F a b c) (Mod_led F a b c)) (h19 : ∀ (a b c : Int32), Good (NW_chain F a b c) (Mod_chain F a b c)) (h20 : ∀ (a b : Int32), Good (NW_honest F a b) (Mod_honest F a b)) (h21 : ∀ (a b c : Int32), Good (NW_far F a b c) (Mod_far F a b c)) (h22 : ∀ (a b c d : Int32), Good (NW_mixed F a b c d) (Mod_mixed F a b c d)) (h23 : ∀ (a b c d : Int32), Good (NW_square F a b c d) (Mod_square F a b c d)) (h24 : ∀ (a b : Int32), Good (NW_squares F a b) (Mod_squares F a b)) : ∃ M', loopN (Law_law_B18 F b L xs) F (0, xM3) = some (26, 0, M') := by
  have key := loopN_inv (body := Law_law_B18 F b L xs) (I := fun i s => s.1 = nI (5 * i) ∧ Inv s.2) (Qx := fun q => ∃ M', q = (26, 0, M')) (N := L / 5) (F := F) (s := (0, xM3)) (fun i s hi hs => by
    obtain ⟨x, M⟩ := s
    obtain ⟨rfl, hM⟩ := hs
    obtain ⟨M', h, hM'⟩ := law_body (b := b) (xs := xs) hL h0 h1 h2 h3 h4 h5 h6 h7 h8 h9 h10 h11 h12 h13 h14 h15 h16 h17 h18 h19 h20 h21 h22 h23 h24 (i := i) (by omega) hM
    exact Or.inl ⟨_, h, rfl, hM'⟩) (fun s hs => by
    obtain ⟨x, M⟩ := s
    obtain ⟨rfl, hM⟩ := hs
    refine ⟨(26, 0, M), ?_, (fun h => by cases h), M, rfl⟩
    unfold Law_law_B18
    dsimp only
    refine if_pos ?_
    have h1 : (nI L - nI 5).toInt = (L : Int) - 5 := pk_sub_toInt (by omega) (by decide)
    rw [Int32.lt_iff_toInt_lt, nI_toInt (by omega)]
    show (nI L - nI 5).toInt < _
    rw [h1]
    omega) (by omega) ⟨nI_0.symm, hI0⟩
  obtain ⟨q, h1, M', rfl⟩ := key
  exact ⟨M', h1⟩

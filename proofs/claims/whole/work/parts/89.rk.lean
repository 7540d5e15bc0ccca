/-! the reference makes names: passes -/
theorem stP_2 {st : Nat → Nat} {n u : Nat} : ∀ ps s, stP st n u ps s = 2 → s = 2 ∨ ∃ q, q ∈ ps ∧ stQ st n u q = 2 := by
  intro ps
  induction ps with
  | nil => intro s h; exact Or.inl h
  | cons q ps ih =>
    intro s h
    rw [stP_c] at h
    rcases ih _ h with a | ⟨q', a, b⟩
    · unfold stC at a
      by_cases c : stQ st n u q = 2 ∨ s = 2
      · rcases c with c | c
        · exact Or.inr ⟨q, List.mem_cons_self, c⟩
        · exact Or.inl c
      · rw [if_neg c] at a
        split at a
        · omega
        · exact Or.inl a
    · exact Or.inr ⟨q', List.mem_cons_of_mem _ a, b⟩
theorem stP_0 {st : Nat → Nat} {n u : Nat} : ∀ ps s, stP st n u ps s = 0 → s = 0 ∨ ∃ q, q ∈ ps ∧ stQ st n u q = 0 := by
  intro ps
  induction ps with
  | nil => intro s h; exact Or.inl h
  | cons q ps ih =>
    intro s h
    rw [stP_c] at h
    rcases ih _ h with a | ⟨q', a, b⟩
    · unfold stC at a
      by_cases c : stQ st n u q = 2 ∨ s = 2
      · rw [if_pos c] at a; omega
      · rw [if_neg c] at a
        by_cases c2 : stQ st n u q = 0
        · exact Or.inr ⟨q, List.mem_cons_self, c2⟩
        · rw [if_neg c2] at a; exact Or.inl a
    · exact Or.inr ⟨q', List.mem_cons_of_mem _ a, b⟩
theorem stP_1 {st : Nat → Nat} (h3 : ∀ m, m < 1000 → st m < 3) {n u : Nat} : ∀ ps s, s < 3 → stP st n u ps s = 1 → s = 1 ∧ ∀ q, q ∈ ps → stQ st n u q = 1 := by
  intro ps
  induction ps with
  | nil => intro s _ h; exact ⟨h, fun q hq => by cases hq⟩
  | cons q ps ih =>
    intro s hs h
    rw [stP_c] at h
    have q3 := stQ_3 h3 (n := n) (u := u) (q := q)
    obtain ⟨a, b⟩ := ih _ (stC_3 hs q3) h
    unfold stC at a
    by_cases c : stQ st n u q = 2 ∨ s = 2
    · rw [if_pos c] at a; omega
    · rw [if_neg c] at a
      by_cases c2 : stQ st n u q = 0
      · rw [if_pos c2] at a; omega
      · rw [if_neg c2] at a
        refine ⟨a, fun q' hq => ?_⟩
        rcases List.mem_cons.mp hq with y | y
        · rw [y]; omega
        · exact b q' y
theorem bldP_all {N : Nat → Option Nm} {n u : Nat} : ∀ ps z r, bldP N n u ps z = some r → ∀ q, q ∈ ps → thr q n u = true → prtW N n u q ≠ none := by
  intro ps
  induction ps with
  | nil => intro z r _ q hq; cases hq
  | cons p ps ih =>
    intro z r h q hq ht
    rw [bldP_c] at h
    by_cases c : thr p n u = true
    · rw [if_pos c] at h
      cases e : prtW N n u p with
      | none => rw [e] at h; cases h
      | some v =>
        rw [e] at h
        rcases List.mem_cons.mp hq with y | y
        · rw [y, e]; exact fun q => by cases q
        · exact ih _ _ h q y ht
    · rw [if_neg c] at h
      rcases List.mem_cons.mp hq with y | y
      · rw [y] at ht; exact absurd ht c
      · exact ih _ _ h q y ht
theorem bldP_ex {N : Nat → Option Nm} {n u : Nat} : ∀ ps z, (∀ q, q ∈ ps → thr q n u = true → prtW N n u q ≠ none) → ∃ r, bldP N n u ps z = some r := by
  intro ps
  induction ps with
  | nil => intro z _; exact ⟨z, rfl⟩
  | cons p ps ih =>
    intro z h
    rw [bldP_c]
    by_cases c : thr p n u = true
    · rw [if_pos c]
      cases e : prtW N n u p with
      | none => exact absurd e (h p List.mem_cons_self c)
      | some v => exact ih _ (fun q hq => h q (List.mem_cons_of_mem _ hq))
    · rw [if_neg c]; exact ih _ (fun q hq => h q (List.mem_cons_of_mem _ hq))
theorem jnW_lt {w v : List Nat} (h1 : ∀ k ∈ w, isLt k) (h2 : ∀ k ∈ v, isLt k) : ∀ k ∈ jnW w v, isLt k := by
  unfold jnW
  intro k hk
  by_cases c : v = []
  · rw [if_pos c] at hk; exact h1 k hk
  · rw [if_neg c] at hk
    by_cases c2 : w = []
    · rw [if_pos c2] at hk; exact h2 k hk
    · rw [if_neg c2] at hk
      rcases List.mem_append.mp hk with y | y
      · exact h1 k y
      · rcases List.mem_cons.mp y with z | z
        · exact Or.inl z
        · exact h2 k z
theorem bldP_lt {N : Nat → Option Nm} {n u : Nat} (hN : ∀ m x, m < 1000 → N m = some x → ∀ k ∈ x.1, isLt k) : ∀ ps z r, (∀ q ∈ ps, okP q) → (∀ k ∈ z.1, isLt k) → bldP N n u ps z = some r → ∀ k ∈ r.1, isLt k := by
  intro ps
  induction ps with
  | nil => intro z r _ hz h; injection h with h; rw [← h]; exact hz
  | cons p ps ih =>
    intro z r hp hz h
    rw [bldP_c] at h
    have hp' : ∀ q ∈ ps, okP q := fun q hq => hp q (List.mem_cons_of_mem _ hq)
    by_cases c : thr p n u = true
    · rw [if_pos c] at h
      cases e : prtW N n u p with
      | none => rw [e] at h; cases h
      | some v =>
        rw [e] at h
        refine ih _ r hp' ?_ h
        refine jnW_lt hz ?_
        unfold prtW at e
        by_cases q0 : p.1 = 0
        · rw [if_pos q0] at e
          injection e with e
          rw [← e]
          rcases hp p List.mem_cons_self with y | y
          · exact fun k hk => Or.inr (y.2.2.2 k hk)
          · exact absurd q0 (isK_lt y.1).2
        · rw [if_neg q0] at e
          by_cases c2 : askN p.1 n u < 1000
          · rw [if_pos c2] at e
            cases e2 : N (askN p.1 n u) with
            | none => rw [e2] at e; cases e
            | some x =>
              rw [e2] at e
              injection e with e
              rw [← e]
              exact hN _ x c2 e2
          · rw [if_neg c2] at e; cases e
    · rw [if_neg c] at h; exact ih _ r hp' hz h
theorem nmD_ok {C : List Cls} (hok : ∀ c ∈ C, okCl c) (h12 : C.length ≤ 12) : ∀ k n x, nmD C k n = some x → okW x.1 ∧ x.2.1 < 12 ∧ 1 ≤ x.2.2 ∧ x.2.2 ≤ 8 := by
  intro k
  induction k with
  | zero => intro n x h; cases h
  | succ k ih =>
    intro n x h
    obtain ⟨i, r, h1, h2, rfl⟩ := nmD_some.mp h
    have h3 := nmO_some.mp h2
    have hi := chs_lt h1
    refine ⟨⟨h3.2.1, bldP_lt (fun m y _ hy => (ih m y hy).1.2) _ _ _ (hok _ (cg_mem hi)).2.2.2.2 (fun k hk => by cases hk) h3.1⟩, by show i < 12; omega, by show 1 ≤ r.2 + 1; omega, by show r.2 + 1 ≤ 8; omega⟩
def Iv (C : List Cls) (N : Nat → Option Nm) (st : Nat → Nat) : Prop := ∀ m, m < 1000 → st m < 3 ∧ (st m = 1 ↔ (N m).isSome = true) ∧ (∀ x, N m = some x → NM C m = some x) ∧ (st m = 2 → NM C m = none)
def fR (t : Nat) (M0 M : zM) : Prop := (∀ b, b ≠ 63 → b ≠ 74 → b ≠ 76 → b ≠ 77 → b ≠ 78 → b ≠ 89 → b ≠ 90 → M.1 b = M0.1 b) ∧ (∀ k, k ≠ 33 → M.1 63 k = M0.1 63 k) ∧ (∀ j, (j < 1000 * t ∨ 1000 * t + 1000 ≤ j) → M.1 74 j = M0.1 74 j ∧ M.1 76 j = M0.1 76 j ∧ M.1 77 j = M0.1 77 j ∧ M.1 78 j = M0.1 78 j) ∧ (∀ b, b ≠ 75 → M.2 b = M0.2 b) ∧ ∀ k, (k < 8000 * t ∨ 8000 * t + 8000 ≤ k) → M.2 75 k = M0.2 75 k
def NBM (t : Nat) (C : List Cls) (N : Nat → Option Nm) (st : Nat → Nat) (M0 M : zM) : Prop := CT t C M ∧ (∀ n, n < 1000 → MN (1000 * t + n) (N n) M) ∧ (∀ n, n < 1000 → M.1 90 n = nI (st n)) ∧ fR t M0 M
def upS (st : Nat → Nat) (n v m : Nat) : Nat := if m = n then v else st m
theorem MN.fK {a j : Nat} {q : Option Nm} {M M1 : zM} (h : MN j q M) (hq : ∀ z, q = some z → z.1.length ≤ 60) (hj : j ≠ a) (f : fK a M M1) : MN j q M1 := by
  obtain ⟨v1, v2, v3, v4⟩ := f.2.2.1 j hj
  cases q with
  | none => exact ⟨v1.trans h.1, v2.trans h.2.1, v3.trans h.2.2⟩
  | some x =>
    obtain ⟨w, b, d⟩ := x
    obtain ⟨h1, h2, h3, h4, h5⟩ := h
    have hl : w.length ≤ 60 := hq _ rfl
    refine ⟨v1.trans h1, v2.trans h2, v3.trans h3, v4.trans h4, fun i hi => ?_⟩
    rw [← h5 i hi]
    unfold mB
    rw [f.2.2.2.2 (8 * j + i / 8) (by omega)]
theorem CT.keep {t : Nat} {C : List Cls} {M M1 : zM} (h : CT t C M) (hs : ∀ b, 64 ≤ b → b ≤ 73 → M1.1 b = M.1 b) : CT t C M1 := by
  unfold CT CT1 PT1 at *
  rw [hs 64 (by decide) (by decide), hs 65 (by decide) (by decide), hs 66 (by decide) (by decide), hs 67 (by decide) (by decide), hs 68 (by decide) (by decide), hs 69 (by decide) (by decide), hs 70 (by decide) (by decide), hs 71 (by decide) (by decide), hs 72 (by decide) (by decide), hs 73 (by decide) (by decide)]
  exact h
def Fn (C : List Cls) (st : Nat → Nat) (k : Nat) : Prop := ∀ m, m < k → st m = 0 → ∃ i, chs C m = some i ∧ (cg C i).2.2.1 ≠ 0 ∧ stP st m (cg C i).2.2.1 (cg C i).2.2.2 1 = 0
/-- one number of a pass -/
theorem one_ok {F t n : Nat} {x2 : Bool} {C : List Cls} {N : Nat → Option Nm} {st : Nat → Nat} {M0 M : zM} (h : NBM t C N st M0 M) (iv : Iv C N st) (hn : n < 1000) (h0 : st n = 0) (ht : t < 3) (h12 : C.length ≤ 12) (hok : ∀ c ∈ C, okCl c) (hF : 3000 < F) : ∃ M1 N1 v, Mod_findNames_B71 F (nI t) (bI x2, nI n, M) = some (0, bI (x2 || decide (0 < v)), nI (n + 1), M1) ∧ NBM t C N1 (upS st n v) M0 M1 ∧ Iv C N1 (upS st n v) ∧ (v = 0 → N1 = N ∧ ∃ i, chs C n = some i ∧ (cg C i).2.2.1 ≠ 0 ∧ stP st n (cg C i).2.2.1 (cg C i).2.2.2 1 = 0) := by
  obtain ⟨hC, hN, hst, hf⟩ := h
  have Nn : N n = none := by
    cases e : N n with
    | none => rfl
    | some x => have := (iv n hn).2.1.mpr (by rw [e]; rfl); omega
  have okx : ∀ m, m < 1000 → ∀ x, N m = some x → okW x.1 ∧ x.2.2 ≤ 8 := fun m hm x hx => by
    have := nmD_ok hok h12 8 m x ((iv m hm).2.2.1 x hx)
    exact ⟨this.1, this.2.2.2⟩
  have h3 : ∀ m, m < 1000 → st m < 3 := fun m hm => (iv m hm).1
  -- the state is written
  have j151 : ∀ (v : Nat) (Mx : zM), v < 3 → Mod_findNames_J151 F (nI t) (bI x2) (nI n) (nI n) (nI v) Mx = some (0, bI (x2 || decide (0 < v)), nI (n + 1), zI Mx 90 n (nI v)) := fun v Mx hv => by
    unfold Mod_findNames_J151
    dsimp only [lt]
    rw [if_pos (inb_nI hn (by decide)), nI_clamp (by omega), zI_in, nI_1]
    cases x2 with
    | true => rw [if_neg (show ¬ bI true = 0 by decide)]; rfl
    | false =>
      rw [if_pos (show bI false = 0 from rfl), if_pos (inb_nI hn (by decide))]
      by_cases c : 0 < v
      · rw [if_neg (show ¬ nI v ≤ 0 from nI_ge (a := 0) c (by omega)), decide_eq_true c]; rfl
      · rw [if_pos (show nI v ≤ 0 from nI_le (b := 0) (by omega) (by decide)), decide_eq_false c]; rfl
  have wr : ∀ (v : Nat) (Mx : zM), CT t C Mx → (∀ m, m < 1000 → Mx.1 90 m = nI (st m)) → fR t M0 Mx → CT t C (zI Mx 90 n (nI v)) ∧ (∀ m, m < 1000 → (zI Mx 90 n (nI v)).1 90 m = nI (upS st n v m)) ∧ fR t M0 (zI Mx 90 n (nI v)) := fun v Mx c1 c2 c3 => by
    refine ⟨c1.keep (fun b b1 b2 => zI_other (by omega)), fun m hm => ?_, ⟨fun b b1 b2 b3 b4 b5 b6 b7 => (zI_other b7).trans (c3.1 b b1 b2 b3 b4 b5 b6 b7), fun k hk => (congrFun (zI_other (by decide)) k).trans (c3.2.1 k hk), fun j hj => ?_, c3.2.2.2.1, c3.2.2.2.2⟩⟩
    · unfold upS
      by_cases z : m = n
      · rw [if_pos z, z, zI_in]
      · rw [if_neg z, zI_ne (Or.inr z)]; exact c2 m hm
    · rw [zI_other (by decide), zI_other (by decide), zI_other (by decide), zI_other (by decide)]
      exact c3.2.2.1 j hj
  -- nothing but the state
  have plain : ∀ (v : Nat), v < 3 → v ≠ 1 → (v = 2 → NM C n = none) → NBM t C N (upS st n v) M0 (zI M 90 n (nI v)) ∧ Iv C N (upS st n v) := fun v hv v1 v2 => by
    obtain ⟨w1, w2, w3⟩ := wr v M hC hst hf
    refine ⟨⟨w1, fun m hm => (hN m hm).same (fun b b1 b2 => ⟨zI_other (by omega), rfl⟩), w2, w3⟩, fun m hm => ?_⟩
    unfold upS
    by_cases z : m = n
    · subst z
      rw [if_pos rfl, Nn]
      exact ⟨hv, ⟨fun q => absurd q v1, fun q => (by cases q)⟩, fun x hx => (by cases hx), v2⟩
    · rw [if_neg z]; exact iv m hm
  -- a name is made
  have mk : ∀ i r, i < C.length → chs C n = some i → bldP N n (cg C i).2.2.1 (cg C i).2.2.2 ([], 0) = some r → ∃ M1 N1 v, Mod_findNames_J125 F (nI t) (bI x2) (nI n) (nI (12 * t + i)) 1 M = some (0, bI (x2 || decide (0 < v)), nI (n + 1), M1) ∧ NBM t C N1 (upS st n v) M0 M1 ∧ Iv C N1 (upS st n v) ∧ (v = 0 → N1 = N ∧ ∃ i, chs C n = some i ∧ (cg C i).2.2.1 ≠ 0 ∧ stP st n (cg C i).2.2.1 (cg C i).2.2.2 1 = 0) := fun i r hi ci hb => by
    have hL := bldP_lt (fun m x hm hx => (okx m hm x hx).1.2) _ _ _ (hok _ (cg_mem hi)).2.2.2.2 (fun k hk => by cases hk) hb
    obtain ⟨M1, k1, k2, k3, k4⟩ := mk_ok (F := F) hC ht h12 hi (hok _ (cg_mem hi)) hN okx hn hb hL hF
    unfold Mod_findNames_J125
    rw [if_pos rfl, k1, Option.bind_some]
    have c1 : CT t C M1 := hC.keep (fun b b1 b2 => k2.1 b (by omega) (by omega) (by omega) (by omega) (by omega) (by omega))
    have c2 : ∀ m, m < 1000 → M1.1 90 m = nI (st m) := fun m hm => by rw [k2.1 90 (by decide) (by decide) (by decide) (by decide) (by decide) (by decide)]; exact hst m hm
    have c3 : fR t M0 M1 := ⟨fun b b1 b2 b3 b4 b5 b6 b7 => (k2.1 b b1 b2 b3 b4 b5 b6).trans (hf.1 b b1 b2 b3 b4 b5 b6 b7), fun k hk => (k2.2.1 k hk).trans (hf.2.1 k hk), fun j hj => by
      obtain ⟨a1, a2, a3, a4⟩ := k2.2.2.1 j (by omega)
      obtain ⟨d1, d2, d3, d4⟩ := hf.2.2.1 j hj
      exact ⟨a1.trans d1, a2.trans d2, a3.trans d3, a4.trans d4⟩, fun b hb => (k2.2.2.2.1 b hb).trans (hf.2.2.2.1 b hb), fun k hk => (k2.2.2.2.2 k (by omega)).trans (hf.2.2.2.2 k hk)⟩
    by_cases cf : r.1.length ≤ 60 ∧ r.2 < 8
    · have no : nmO N (cg C i) n = some r := nmO_some.mpr ⟨hb, cf⟩
      have nmn : NM C n = some (r.1, i, r.2 + 1) := NM_fix (fun m x hm hx => (iv m hm).2.2.1 x hx) ci no
      obtain ⟨w1, w2, w3⟩ := wr 1 M1 c1 c2 c3
      dsimp only
      rw [if_pos cf, show (1 : Int32) = nI 1 from rfl, j151 1 M1 (by decide)]
      refine ⟨_, upN N n (r.1, i, r.2 + 1), 1, rfl, ⟨w1, fun m hm => ?_, w2, w3⟩, fun m hm => ?_, fun q => by cases q⟩
      · unfold upN
        by_cases z : m = n
        · rw [if_pos z, z]
          exact (k3 cf).same (fun b b1 b2 => ⟨zI_other (by omega), rfl⟩)
        · rw [if_neg z]
          exact ((hN m hm).fK (fun y hy => (okx m hm y hy).1.1) (by omega) k2).same (fun b b1 b2 => ⟨zI_other (by omega), rfl⟩)
      · unfold upS upN
        by_cases z : m = n
        · subst z
          rw [if_pos rfl, if_pos rfl]
          exact ⟨by decide, ⟨fun _ => rfl, fun _ => rfl⟩, fun x hx => (by injection hx with hx; rw [← hx]; exact nmn), fun q => (by cases q)⟩
        · rw [if_neg z, if_neg z]; exact iv m hm
    · obtain ⟨w1, w2, w3⟩ := wr 2 M1 c1 c2 c3
      dsimp only
      rw [if_neg cf, show (2 : Int32) = nI 2 from rfl, j151 2 M1 (by decide)]
      have nn : NM C n = none := by
        cases e : NM C n with
        | none => rfl
        | some x =>
          exfalso
          obtain ⟨i', r', h1, h2, _⟩ := nmD_some.mp e
          rw [ci] at h1
          injection h1 with h1
          subst h1
          have h4 := nmO_some.mp h2
          have e1 := bldP_t (N' := NM C) _ _ _ h4.1 (fun m y _ hy _ => nmD_8 hy)
          have e2 := bldP_t (N' := NM C) _ _ _ hb (fun m y hm hy _ => (iv m hm).2.2.1 y hy)
          rw [e1] at e2
          injection e2 with e2
          rw [e2] at h4
          exact cf h4.2
      have fmk := k4 cf
      refine ⟨_, N, 2, rfl, ⟨w1, fun m hm => ?_, w2, w3⟩, fun m hm => ?_, fun q => by cases q⟩
      · exact (hN m hm).same (fun b b1 b2 => ⟨(zI_other (by omega)).trans (fmk.1 b (by omega) (by omega)), by show M1.2 b = M.2 b; rw [fmk.2.1]⟩)
      · unfold upS
        by_cases z : m = n
        · subst z
          rw [if_pos rfl, Nn]
          exact ⟨by decide, ⟨fun q => (by cases q), fun q => (by cases q)⟩, fun x hx => (by cases hx), fun _ => nn⟩
        · rw [if_neg z]; exact iv m hm
  unfold Mod_findNames_B71
  dsimp only [lt]
  rw [if_neg (show ¬ (1000 : Int32) ≤ nI n from nI_ge (b := 1000) hn (by decide)), if_pos (inb_nI hn (by decide)), nI_clamp (by omega), hst n hn, h0, if_pos (show nI 0 = 0 from rfl), clF_ok hC ht h12 hok hn hF, Option.bind_some]
  dsimp only
  have other : ∀ (x4 : Int32) (v : Nat), v < 3 → v ≠ 1 → Mod_findNames_J125 F (nI t) (bI x2) (nI n) x4 (nI v) M = some (0, bI (x2 || decide (0 < v)), nI (n + 1), zI M 90 n (nI v)) := fun x4 v hv v1 => by
    unfold Mod_findNames_J125
    rw [if_neg (show ¬ nI v = 1 from fun q => v1 ((nI_eq (b := 1) (by omega) (by decide)).mp q)), j151 v M hv]
  cases ec : chs C n with
  | none =>
    rw [if_neg (show ¬ 0 ≤ oT t none by show ¬ (0 : Int32) ≤ -1; decide), show (2 : Int32) = nI 2 from rfl, other _ 2 (by decide) (by decide)]
    obtain ⟨p1, p2⟩ := plain 2 (by decide) (by decide) (fun _ => by
      cases e : NM C n with
      | none => rfl
      | some x => obtain ⟨i, r, h1, _⟩ := nmD_some.mp e; rw [ec] at h1; cases h1)
    exact ⟨_, N, 2, rfl, p1, p2, fun q => by cases q⟩
  | some i =>
    have hi := chs_lt ec
    have ct := hC.2 i hi
    have hc := hok _ (cg_mem hi)
    rw [show oT t (some i) = nI (12 * t + i) from rfl, if_pos (ge0 (by omega)), if_pos (inb_nI (by omega) (by decide)), nI_clamp (by omega), ct.1]
    by_cases d0 : (cg C i).2.2.1 = 0
    · rw [decide_eq_true d0, if_neg (show ¬ bI true = 0 by decide)]
      rcases hc.2.2.1 with y | y
      · obtain ⟨_, _, l, hl⟩ := y
        obtain ⟨r, hb⟩ := bldP_ex (N := N) (n := n) (u := (cg C i).2.2.1) (cg C i).2.2.2 ([], 0) (fun q hq _ => by
          rw [hl] at hq
          rw [List.mem_singleton.mp hq]
          exact fun z => by cases z)
        have k := mk i r hi ec hb
        rw [ec] at k
        exact k
      · omega
    · rw [decide_eq_false d0, if_pos (show bI false = 0 from rfl), stO_ok hC ht h12 hi hc d0 hst h3 hn hF, Option.bind_some]
      dsimp only
      have s3 : stP st n (cg C i).2.2.1 (cg C i).2.2.2 1 < 3 := by
        have gen : ∀ ps s, s < 3 → stP st n (cg C i).2.2.1 ps s < 3 := by
          intro ps
          induction ps with
          | nil => intro s hs; exact hs
          | cons q ps ih => intro s hs; rw [stP_c]; exact ih _ (stC_3 hs (stQ_3 h3))
        exact gen _ 1 (by decide)
      -- how the parts stand says what N holds
      have qs : ∀ q, stQ st n (cg C i).2.2.1 q = 1 → thr q n (cg C i).2.2.1 = true → prtW N n (cg C i).2.2.1 q ≠ none := fun q hq hth => by
        unfold stQ at hq
        unfold prtW
        by_cases q0 : q.1 = 0
        · rw [if_pos q0]; exact fun z => by cases z
        · rw [if_neg q0, if_pos hth] at hq
          rw [if_neg q0]
          by_cases am : askN q.1 n (cg C i).2.2.1 < 1000
          · rw [if_pos am] at hq
            rw [if_pos am]
            have := (iv _ am).2.1.mp hq
            cases e : N (askN q.1 n (cg C i).2.2.1) with
            | none => rw [e] at this; cases this
            | some x => exact fun z => by cases z
          · rw [if_neg am] at hq; cases hq
      by_cases v1 : stP st n (cg C i).2.2.1 (cg C i).2.2.2 1 = 1
      · obtain ⟨_, a2⟩ := stP_1 h3 _ 1 (by decide) v1
        obtain ⟨r, hb⟩ := bldP_ex (N := N) (n := n) (u := (cg C i).2.2.1) (cg C i).2.2.2 ([], 0) (fun q hq hth => qs q (a2 q hq) hth)
        rw [v1]
        have k := mk i r hi ec hb
        rw [ec] at k
        exact k
      · rw [other _ _ s3 v1]
        obtain ⟨p1, p2⟩ := plain _ s3 v1 (fun v2 => by
          cases e : NM C n with
          | none => rfl
          | some x =>
            exfalso
            obtain ⟨i', r', h1, h2, _⟩ := nmD_some.mp e
            rw [ec] at h1
            injection h1 with h1
            subst h1
            have h4 := nmO_some.mp h2
            rcases stP_2 _ 1 v2 with y | ⟨q, hq, hq2⟩
            · cases y
            · unfold stQ at hq2
              by_cases q0 : q.1 = 0
              · rw [if_pos q0] at hq2; cases hq2
              · rw [if_neg q0] at hq2
                by_cases hth : thr q n (cg C i).2.2.1 = true
                · rw [if_pos hth] at hq2
                  have := bldP_all _ _ _ h4.1 q hq hth
                  unfold prtW at this
                  rw [if_neg q0] at this
                  by_cases am : askN q.1 n (cg C i).2.2.1 < 1000
                  · rw [if_pos am] at hq2 this
                    have nz := (iv _ am).2.2.2 hq2
                    cases e3 : nmD C 7 (askN q.1 n (cg C i).2.2.1) with
                    | none => rw [e3] at this; exact this rfl
                    | some y => rw [nmD_8 e3] at nz; cases nz
                  · rw [if_neg am] at this; exact this rfl
                · rw [if_neg hth] at hq2; cases hq2)
        exact ⟨_, N, _, rfl, p1, p2, fun q => ⟨rfl, i, rfl, d0, q⟩⟩

/-! names, plainly -/
def chD (C : List Cls) (n : Nat) : Nat → Option Nat
  | 0 => none
  | j + 1 => if (cg C (C.length - 1 - j)).2.2.1 ≠ 0 ∧ (cg C (C.length - 1 - j)).1 ≤ n ∧ n ≤ (cg C (C.length - 1 - j)).2.1 then some (C.length - 1 - j) else chD C n j
def chU (C : List Cls) (n : Nat) : Nat → Option Nat
  | 0 => chD C n C.length
  | j + 1 => if (cg C j).2.2.1 = 0 ∧ (cg C j).1 = n then some j else chU C n j
def chs (C : List Cls) (n : Nat) : Option Nat := chU C n C.length
theorem chD_lt {C : List Cls} {n : Nat} : ∀ j i, j ≤ C.length → chD C n j = some i → i < C.length ∧ (cg C i).2.2.1 ≠ 0 := by
  intro j
  induction j with
  | zero => intro i _ h; cases h
  | succ j ih =>
    intro i hj h
    unfold chD at h
    by_cases c : (cg C (C.length - 1 - j)).2.2.1 ≠ 0 ∧ (cg C (C.length - 1 - j)).1 ≤ n ∧ n ≤ (cg C (C.length - 1 - j)).2.1
    · rw [if_pos c] at h
      injection h with h
      rw [← h]; exact ⟨by omega, c.1⟩
    · rw [if_neg c] at h; exact ih i (by omega) h
theorem chU_lt {C : List Cls} {n : Nat} : ∀ j i, j ≤ C.length → chU C n j = some i → i < C.length := by
  intro j
  induction j with
  | zero => intro i _ h; exact (chD_lt C.length i (Nat.le_refl _) h).1
  | succ j ih =>
    intro i hj h
    unfold chU at h
    by_cases c : (cg C j).2.2.1 = 0 ∧ (cg C j).1 = n
    · rw [if_pos c] at h
      injection h with h
      omega
    · rw [if_neg c] at h; exact ih i (by omega) h
theorem chs_lt {C : List Cls} {n i : Nat} (h : chs C n = some i) : i < C.length := chU_lt C.length i (Nat.le_refl _) h
def askN (k n u : Nat) : Nat := if k = 113 then n / u else if k = 116 then n - n % u else if k = 114 then n % u else if k = 99 then u - n % u else n - n % u + u
def thr (q : Prt) (n u : Nat) : Bool := !q.2.1 || decide (u ≠ 0 ∧ n % u ≠ 0)
def jnW (w v : List Nat) : List Nat := if v = [] then w else if w = [] then v else w ++ 32 :: v
def prtW (N : Nat → Option Nm) (n u : Nat) (q : Prt) : Option (List Nat × Nat) :=
  if q.1 = 0 then some (q.2.2, 0) else if askN q.1 n u < 1000 then (match N (askN q.1 n u) with
    | none => none
    | some x => some (x.1, x.2.2)) else none
def bldP (N : Nat → Option Nm) (n u : Nat) : List Prt → List Nat × Nat → Option (List Nat × Nat)
  | [], r => some r
  | q :: ps, r => if thr q n u = true then (match prtW N n u q with
      | none => none
      | some v => bldP N n u ps (jnW r.1 v.1, max r.2 v.2)) else bldP N n u ps r
def nmO (N : Nat → Option Nm) (c : Cls) (n : Nat) : Option (List Nat × Nat) := match bldP N n c.2.2.1 c.2.2.2 ([], 0) with
  | none => none
  | some r => if r.1.length ≤ 60 ∧ r.2 < 8 then some r else none
def nmD (C : List Cls) : Nat → Nat → Option Nm
  | 0 => fun _ => none
  | k + 1 => fun n => match chs C n with
    | none => none
    | some i => match nmO (nmD C k) (cg C i) n with
      | none => none
      | some r => some (r.1, i, r.2 + 1)
theorem bldP_c (N : Nat → Option Nm) (n u : Nat) (q : Prt) (ps : List Prt) (r : List Nat × Nat) : bldP N n u (q :: ps) r = if thr q n u = true then (match prtW N n u q with
      | none => none
      | some v => bldP N n u ps (jnW r.1 v.1, max r.2 v.2)) else bldP N n u ps r := rfl
theorem bldP_ge {N : Nat → Option Nm} {n u : Nat} : ∀ ps r r', bldP N n u ps r = some r' → r.2 ≤ r'.2 ∧ r.1.length ≤ r'.1.length := by
  intro ps
  induction ps with
  | nil => intro r r' h; injection h with h; rw [h]; exact ⟨Nat.le_refl _, Nat.le_refl _⟩
  | cons q ps ih =>
    intro r r' h
    rw [bldP_c] at h
    by_cases c : thr q n u = true
    · rw [if_pos c] at h
      cases e : prtW N n u q with
      | none => rw [e] at h; cases h
      | some v =>
        rw [e] at h
        have := ih _ _ h
        refine ⟨Nat.le_trans (Nat.le_max_left _ _) this.1, Nat.le_trans ?_ this.2⟩
        show r.1.length ≤ (jnW r.1 v.1).length
        unfold jnW
        split
        · exact Nat.le_refl _
        · split
          · rename_i h2; rw [h2]; exact Nat.zero_le _
          · rw [List.length_append]; omega
    · rw [if_neg c] at h; exact ih _ _ h
theorem bldP_t {N N' : Nat → Option Nm} {n u : Nat} : ∀ ps r r', bldP N n u ps r = some r' → (∀ m x, m < 1000 → N m = some x → x.2.2 ≤ r'.2 → N' m = some x) → bldP N' n u ps r = some r' := by
  intro ps
  induction ps with
  | nil => intro r r' h _; exact h
  | cons q ps ih =>
    intro r r' h hN
    rw [bldP_c] at h ⊢
    by_cases c : thr q n u = true
    · rw [if_pos c] at h ⊢
      cases e : prtW N n u q with
      | none => rw [e] at h; cases h
      | some v =>
        rw [e] at h
        have hge := (bldP_ge _ _ _ h).1
        have hv : v.2 ≤ r'.2 := Nat.le_trans (Nat.le_max_right _ _) hge
        have e' : prtW N' n u q = some v := by
          unfold prtW at e ⊢
          by_cases c1 : q.1 = 0
          · rw [if_pos c1] at e ⊢; exact e
          · rw [if_neg c1] at e ⊢
            by_cases c2 : askN q.1 n u < 1000
            · rw [if_pos c2] at e ⊢
              cases e2 : N (askN q.1 n u) with
              | none => rw [e2] at e; cases e
              | some x =>
                rw [e2] at e
                injection e with e
                rw [hN _ x c2 e2 (by rw [← e] at hv; exact hv)]; exact congrArg some e
            · rw [if_neg c2] at e; cases e
        rw [e']
        exact ih _ _ h hN
    · rw [if_neg c] at h ⊢; exact ih _ _ h hN
theorem nmD_s (C : List Cls) (k n : Nat) : nmD C (k + 1) n = match chs C n with
    | none => none
    | some i => match nmO (nmD C k) (cg C i) n with
      | none => none
      | some r => some (r.1, i, r.2 + 1) := rfl
theorem nmO_some {N : Nat → Option Nm} {c : Cls} {n : Nat} {r : List Nat × Nat} : nmO N c n = some r ↔ bldP N n c.2.2.1 c.2.2.2 ([], 0) = some r ∧ r.1.length ≤ 60 ∧ r.2 < 8 := by
  unfold nmO
  cases e : bldP N n c.2.2.1 c.2.2.2 ([], 0) with
  | none => exact ⟨fun h => (by cases h), fun h => (by cases h.1)⟩
  | some x =>
    dsimp only
    by_cases c : x.1.length ≤ 60 ∧ x.2 < 8
    · rw [if_pos c]
      constructor
      · intro h; injection h with h; subst h; exact ⟨rfl, c⟩
      · intro h; exact h.1
    · rw [if_neg c]
      constructor
      · intro h; cases h
      · intro h
        have h1 := h.1
        injection h1 with h1
        subst h1
        exact absurd h.2 c
theorem nmD_some {C : List Cls} {k n : Nat} {x : Nm} : nmD C (k + 1) n = some x ↔ ∃ i r, chs C n = some i ∧ nmO (nmD C k) (cg C i) n = some r ∧ x = (r.1, i, r.2 + 1) := by
  rw [nmD_s]
  cases e : chs C n with
  | none => exact ⟨fun h => (by cases h), fun ⟨i, r, h, _⟩ => (by cases h)⟩
  | some i =>
    dsimp only
    cases e2 : nmO (nmD C k) (cg C i) n with
    | none =>
      refine ⟨fun h => (by cases h), fun ⟨i', r, h1, h2, _⟩ => ?_⟩
      injection h1 with h1
      subst h1
      rw [e2] at h2; cases h2
    | some r =>
      constructor
      · intro h; injection h with h; exact ⟨i, r, rfl, e2, h.symm⟩
      · rintro ⟨i', r', h1, h2, h3⟩
        injection h1 with h1
        subst h1
        rw [e2] at h2
        injection h2 with h2
        subst h2
        rw [h3]
theorem nmD_dp {C : List Cls} : ∀ k n x, nmD C k n = some x → 1 ≤ x.2.2 ∧ x.2.2 ≤ k ∧ nmD C x.2.2 n = some x ∧ ∀ j, x.2.2 ≤ j → nmD C j n = some x := by
  intro k
  induction k with
  | zero => intro n x h; cases h
  | succ k ih =>
    intro n x h
    obtain ⟨i, r, h1, h2, rfl⟩ := nmD_some.mp h
    have h3 := nmO_some.mp h2
    have key : ∀ j, r.2 ≤ j → nmD C (j + 1) n = some (r.1, i, r.2 + 1) := fun j hj => nmD_some.mpr ⟨i, r, h1, nmO_some.mpr ⟨bldP_t _ _ _ h3.1 (fun m y _ hy hd => (ih m y hy).2.2.2 j (by omega)), h3.2⟩, rfl⟩
    refine ⟨by show 1 ≤ r.2 + 1; omega, ?_, key r.2 (Nat.le_refl _), fun j hj => ?_⟩
    · -- the depth is at most k + 1
      show r.2 + 1 ≤ k + 1
      have dm : ∀ ps z z', bldP (nmD C k) n (cg C i).2.2.1 ps z = some z' → z.2 ≤ k → z'.2 ≤ k := by
        intro ps
        induction ps with
        | nil => intro z z' hz hk; injection hz with hz; rw [← hz]; exact hk
        | cons q ps ihp =>
          intro z z' hz hk
          rw [bldP_c] at hz
          by_cases c : thr q n (cg C i).2.2.1 = true
          · rw [if_pos c] at hz
            cases e : prtW (nmD C k) n (cg C i).2.2.1 q with
            | none => rw [e] at hz; cases hz
            | some v =>
              rw [e] at hz
              refine ihp _ _ hz ?_
              have : v.2 ≤ k := by
                unfold prtW at e
                by_cases c1 : q.1 = 0
                · rw [if_pos c1] at e; injection e with e; rw [← e]; exact Nat.zero_le _
                · rw [if_neg c1] at e
                  by_cases c2 : askN q.1 n (cg C i).2.2.1 < 1000
                  · rw [if_pos c2] at e
                    cases e2 : nmD C k (askN q.1 n (cg C i).2.2.1) with
                    | none => rw [e2] at e; cases e
                    | some x =>
                      rw [e2] at e
                      injection e with e
                      rw [← e]
                      exact (ih _ x e2).2.1
                  · rw [if_neg c2] at e; cases e
              exact Nat.max_le.mpr ⟨hk, this⟩
          · rw [if_neg c] at hz; exact ihp _ _ hz hk
      have := dm _ _ _ h3.1 (Nat.zero_le _)
      omega
    · have hj : r.2 + 1 ≤ j := hj
      have := key (j - 1) (by omega)
      rw [show j - 1 + 1 = j by omega] at this
      exact this
def NM (C : List Cls) (n : Nat) : Option Nm := nmD C 8 n
theorem NM_fix {C : List Cls} {N : Nat → Option Nm} {n i : Nat} {r : List Nat × Nat} (hN : ∀ m x, m < 1000 → N m = some x → NM C m = some x) (hi : chs C n = some i) (h : nmO N (cg C i) n = some r) : NM C n = some (r.1, i, r.2 + 1) := by
  have h3 := nmO_some.mp h
  refine nmD_some.mpr ⟨i, r, hi, nmO_some.mpr ⟨bldP_t _ _ _ h3.1 (fun m y hm hy hd => ?_), h3.2⟩, rfl⟩
  exact (nmD_dp 8 m y (hN m y hm hy)).2.2.2 7 (by omega)

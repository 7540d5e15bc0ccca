/-! ===== plain facts of loops and rows ===== -/
/-- a loop whose states are known one by one -/
theorem loopN_seq {σ : Type} {body : σ → Option (Nat × σ)} : ∀ (N : Nat) (st : Nat → σ) (q : Nat × σ) (F : Nat), (∀ i, i < N → body (st i) = some (0, st (i + 1))) → body (st N) = some q → q.1 ≠ 0 → N < F → loopN body F (st 0) = some q := by
  intro N
  induction N with
  | zero =>
    intro st q F hs hx hq hF
    cases F with
    | zero => omega
    | succ F => simp [loopN, hx, hq]
  | succ N ih =>
    intro st q F hs hx hq hF
    cases F with
    | zero => omega
    | succ F =>
      have h0 := hs 0 (by omega)
      simp only [loopN, h0, Option.bind_some, if_true]
      exact ih (fun i => st (i + 1)) q F (fun i hi => hs (i + 1) (by omega)) hx hq (by omega)
theorem inb_nI {i n : Nat} (h : i < n) (hn : n < 2 ^ 31) : inb (nI i) n = true := by
  unfold inb
  have := nI_toInt (n := i) (by omega)
  simp only [decide_eq_true_eq]
  omega
theorem zM_ext {M M' : zM} (h1 : ∀ a, M.1 a = M'.1 a) (h2 : ∀ a, M.2 a = M'.2 a) : M = M' := Prod.ext (funext h1) (funext h2)
/-- a row filled with one number -/
def zFill (M : zM) (a n : Nat) (x : Int32) : zM := (va_up M.1 a (fun j => if j < n then x else M.1 a j), M.2)
theorem zFill_0 {M : zM} {a : Nat} {x : Int32} : zFill M a 0 x = M := by
  refine zM_ext (fun b => ?_) (fun _ => rfl)
  unfold zFill va_up
  by_cases h : b = a
  · subst h; simp
  · simp [h]
theorem zFill_s {M : zM} {a n : Nat} {x : Int32} : zI (zFill M a n x) a n x = zFill M a (n + 1) x := by
  refine zM_ext (fun b => ?_) (fun _ => rfl)
  unfold zFill zI va_up upd
  by_cases h : b = a
  · subst h
    funext j
    simp
    by_cases hj : j = n
    · subst hj; simp
    · simp [hj]
      by_cases hl : j < n
      · simp [hl, show j < n + 1 by omega]
      · simp [hl, show ¬ j < n + 1 by omega]
  · simp [h]
theorem fill_ok {F a : Nat} {x : Int32} {M : zM} (hn : zN a < 2 ^ 31) (hF : zN a < F) : JArr_fill_I F a x M = some ((), zFill M a (zN a) x) := by
  have key := loopN_seq (body := JArr_fill_I_B5 F a x (nI (zN a))) (zN a) (fun i => (nI i, zFill M a i x)) (1, 0, zFill M a (zN a) x) F (fun i hi => by
    show (if nI (zN a) ≤ nI i then some (1, 0, zFill M a i x) else if inb (nI i) (zN a) = true then some (0, nI i + 1, zI (zFill M a i x) a (nI i).toNatClampNeg x) else none) = _
    rw [if_neg (nI_ge hi hn), if_pos (inb_nI hi hn), nI_clamp (by omega), zFill_s, nI_1]) (by
    unfold JArr_fill_I_B5
    exact if_pos (nI_le (Nat.le_refl _) hn)) (fun h => by cases h) hF
  simp only [zFill_0, nI_0] at key
  show (loopN (JArr_fill_I_B5 F a x (nI (zN a))) F (0, M)).bind _ = _
  rw [key]
  rfl
theorem zFill_other {M : zM} {a b n : Nat} {x : Int32} (h : b ≠ a) : (zFill M a n x).1 b = M.1 b := by unfold zFill va_up; simp [h]
/-- a tongue begun anew -/
def zRest (M : zM) (a : Nat) (x : Int32) : zM := zI (zI (zFill (zI (zI M a 0 x) a 1 0) (a + 5) 1000 (-1)) a 9 0) a 10 0
theorem restart_ok {F a : Nat} {x : Int32} {M : zM} (hk : zK a = 9) (hF : 1000 < F) : Ton_restart F a x M = some ((), zRest M a x) := by
  have hn := zNr_9_4 hk
  show (JArr_fill_I F (a + 5) (-1) (zI (zI M a 0 x) a 1 0)).bind _ = _
  rw [fill_ok (by rw [hn]; decide) (by rw [hn]; exact hF), hn]
  rfl
theorem zRest_other {M : zM} {a b : Nat} {x : Int32} (h : b ≠ a) (h5 : b ≠ a + 5) : (zRest M a x).1 b = M.1 b := by
  unfold zRest
  rw [zI_other h, zI_other h, zFill_other h5, zI_other h, zI_other h]

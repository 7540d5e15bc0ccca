/-! ===== the start; the calls that only look ===== -/
theorem zFill_in {M : zM} {a n j : Nat} {x : Int32} (h : j < n) : (zFill M a n x).1 a j = x := by unfold zFill va_up; simp [h]
theorem zI_in {M : zM} {a k : Nat} {v : Int32} : (zI M a k v).1 a k = v := by rw [zI_same]; unfold upd; simp
theorem zI_ne {M : zM} {a b k j : Nat} {v : Int32} (h : b ≠ a ∨ j ≠ k) : (zI M a k v).1 b j = M.1 b j := by
  by_cases hb : b = a
  · subst hb
    rw [zI_same]
    unfold upd
    rw [if_neg (by omega)]
  · rw [zI_other hb]
def T0 : Tn := (0, fun _ => none)
theorem named_0 : named T0 = [] := by unfold named T0; simp
theorem xM3_lo {a : Nat} (h : a < 63) : xM3.1 a = xM1.1 a := by
  unfold xM3 zF3 xM2
  rw [zFill_other (by omega), zFill_other (by omega), zFill_other (by omega), zI_other (by omega)]
theorem zRest_0 {M : zM} {a : Nat} {x : Int32} : (zRest M a x).1 a 0 = x ∧ (zRest M a x).1 a 1 = 0 ∧ (zRest M a x).1 a 9 = 0 ∧ (zRest M a x).1 a 10 = 0 ∧ ∀ n, n < 1000 → (zRest M a x).1 (a + 5) n = -1 := by
  unfold zRest
  refine ⟨?_, ?_, ?_, ?_, fun n hn => ?_⟩
  · rw [zI_ne (Or.inr (by decide)), zI_ne (Or.inr (by decide)), zFill_other (by omega), zI_ne (Or.inr (by decide)), zI_in]
  · rw [zI_ne (Or.inr (by decide)), zI_ne (Or.inr (by decide)), zFill_other (by omega), zI_in]
  · rw [zI_ne (Or.inr (by decide)), zI_in]
  · rw [zI_in]
  · rw [zI_other (by omega), zI_other (by omega), zFill_in hn]
theorem xM1_t (t : Nat) (ht : t < 3) : xM1.1 (14 + 10 * t) 0 = 0 ∧ xM1.1 (14 + 10 * t) 1 = 0 ∧ xM1.1 (14 + 10 * t) 9 = 0 ∧ xM1.1 (14 + 10 * t) 10 = 0 ∧ ∀ n, n < 1000 → xM1.1 (14 + 10 * t + 5) n = -1 := by
  rcases (show t = 0 ∨ t = 1 ∨ t = 2 by omega) with rfl | rfl | rfl
  · have e := zRest_0 (M := zI xM0 12 3 (-1)) (a := 14) (x := 0)
    have o1 : ∀ a, a = 14 ∨ a = 19 → xM1.1 a = (zRest (zI xM0 12 3 (-1)) 14 0).1 a := fun a ha => by
      unfold xM1
      rw [zRest_other (by omega) (by omega), zRest_other (by omega) (by omega)]
    exact ⟨(congrFun (o1 14 (Or.inl rfl)) 0).trans e.1, (congrFun (o1 14 (Or.inl rfl)) 1).trans e.2.1, (congrFun (o1 14 (Or.inl rfl)) 9).trans e.2.2.1, (congrFun (o1 14 (Or.inl rfl)) 10).trans e.2.2.2.1, fun n hn => (congrFun (o1 19 (Or.inr rfl)) n).trans (e.2.2.2.2 n hn)⟩
  · have e := zRest_0 (M := zRest (zI xM0 12 3 (-1)) 14 0) (a := 24) (x := 0)
    have o1 : ∀ a, a = 24 ∨ a = 29 → xM1.1 a = (zRest (zRest (zI xM0 12 3 (-1)) 14 0) 24 0).1 a := fun a ha => by
      unfold xM1
      rw [zRest_other (by omega) (by omega)]
    exact ⟨(congrFun (o1 24 (Or.inl rfl)) 0).trans e.1, (congrFun (o1 24 (Or.inl rfl)) 1).trans e.2.1, (congrFun (o1 24 (Or.inl rfl)) 9).trans e.2.2.1, (congrFun (o1 24 (Or.inl rfl)) 10).trans e.2.2.2.1, fun n hn => (congrFun (o1 29 (Or.inr rfl)) n).trans (e.2.2.2.2 n hn)⟩
  · have e := zRest_0 (M := zRest (zRest (zI xM0 12 3 (-1)) 14 0) 24 0) (a := 34) (x := 0)
    exact e
theorem xM1_o {a : Nat} (h : a < 12 ∨ 44 ≤ a) (j : Nat) : xM1.1 a j = 0 := by
  unfold xM1
  rw [zRest_other (by omega) (by omega), zRest_other (by omega) (by omega), zRest_other (by omega) (by omega), zI_other (by omega)]
  rfl
theorem pk_0 (i : Nat) : pk [] i = 0 := by unfold pk; simp [pkN]; rfl
theorem inv0 : Inv xM3 := by
  refine ⟨([], -1, fun _ => T0, []), ⟨by decide, (fun k h => (by cases h)), ?_, (fun i h => absurd h (Nat.not_lt_zero _)), ?_, (fun t ht => ?_), ?_, ?_⟩, ⟨?_, (fun i h => absurd h (Nat.not_lt_zero _)), ?_, (fun t ht => ⟨?_, fun n hn => ?_⟩), ?_, (fun i h => absurd h (Nat.not_lt_zero _)), Or.inl ?_, (fun k hk => ⟨0, by decide, ?_⟩)⟩⟩
  · rw [xM3_lo (by decide), xM1_o (by decide)]; rfl
  · rw [xM3_lo (by decide)]
    unfold xM1
    rw [zRest_other (by decide) (by decide), zRest_other (by decide) (by decide), zRest_other (by decide) (by decide), zI_in]
  · obtain ⟨h0, h1, h9, h10, h5⟩ := xM1_t t ht
    refine ⟨Nat.zero_le 12, ?_, ?_, fun n hn => ?_, Or.inl ?_, Or.inl ?_⟩
    · rw [xM3_lo (by omega)]; exact h0
    · rw [xM3_lo (by omega), named_0]; exact h1
    · show xM3.1 (14 + 10 * t + 5) n = -1
      rw [xM3_lo (by omega)]; exact h5 n hn
    · rw [xM3_lo (by omega)]; exact h9
    · rw [xM3_lo (by omega)]; exact h10
  · refine ⟨⟨by decide, (fun k h => (by cases h))⟩, ?_, fun i hi => ?_⟩
    · rw [xM3_lo (by decide), xM1_o (by decide)]; rfl
    · rw [pk_0]; rfl
  · refine ⟨⟨by decide, (fun k h => (by cases h))⟩, ?_, fun i hi => ?_⟩
    · rw [xM3_lo (by decide), xM1_o (by decide)]; rfl
    · show _ = pk [] i
      rw [pk_0]; rfl
  all_goals unfold xM3 zF3 xM2
  · rw [zFill_other (by decide), zFill_other (by decide), zFill_other (by decide), zI_ne (Or.inr (by decide)), xM1_o (by decide)]; rfl
  · rw [zFill_other (by decide), zFill_other (by decide), zFill_other (by decide), zI_in]
  · rw [zFill_other (by decide), zFill_other (by decide), zFill_other (by decide), zI_ne (Or.inl (by decide)), xM1_o (by decide)]; rfl
  · have hj : 1000 * t + n < 3000 := by omega
    refine ⟨?_, ?_, ?_⟩
    · rw [zFill_other (by decide), zFill_other (by decide), zFill_in hj]
    · rw [zFill_other (by decide), zFill_in hj]
    · rw [zFill_in hj]
  · rw [zFill_other (by decide), zFill_other (by decide), zFill_other (by decide), zI_ne (Or.inr (by decide)), xM1_o (by decide)]; rfl
  · rw [zFill_other (by decide), zFill_other (by decide), zFill_other (by decide), zI_ne (Or.inr (by decide)), xM1_o (by decide)]
  · rw [zFill_other (by decide), zFill_other (by decide), zFill_other (by decide), zI_ne (Or.inl (by decide)), xM1_o (by decide)]; rfl
/-! fault -/
theorem ok_fault {F : Nat} : Good (NW_fault F) (Mod_fault F) := by
  refine mkGood0 (fun S => S.2.1) (fun S M h => ?_) (fun S M h0 h => ?_)
  · show some (M.1 12 3, M) = _
    rw [h.2.2.2.2.1]
  · show some (M.1 63 17, M) = _
    rw [h.2.2.1]
/-! a number of a tongue -/
theorem tgA_n (t : Nat) (ht : t < 3) : tgA (nI t) = 14 + 10 * t := by unfold tgA; rw [nI_clamp (by omega)]
theorem zK_t {t : Nat} (ht : t < 3) : zK (14 + 10 * t) = 9 := by
  rcases (show t = 0 ∨ t = 1 ∨ t = 2 by omega) with rfl | rfl | rfl <;> rfl
def onm (q : Option Nm) (f : Nm → Int32) : Int32 := match q with
  | none => -1
  | some q => f q
def nmI (T : Tn) (n : Nat) (f : Nm → Int32) : Int32 := onm (T.2 n) f
theorem nlen_ne {k : Nat} (h : k < 2 ^ 31) : ¬ nI k = -1 := fun e => by
  have := congrArg Int32.toInt e
  rw [nI_toInt h] at this
  have e1 : (-1 : Int32).toInt = -1 := by decide
  omega
theorem has_ok {F a n : Nat} {T : Tn} {M : zM} (h : XT a T M) (hn : n < 1000) : Ton_has F a (nI n) M = some (bI (T.2 n).isSome, M) := by
  show (if nI n < 0 then some ((0 : Int32), M) else if nI 1000 ≤ nI n then some (0, M) else if inb (nI n) 1000 = true then if (M.1 (a + 5) (nI n).toNatClampNeg) = (-1) then some (0, M) else some (1, M) else none) = _
  rw [if_neg (nI_pos (by omega)), if_neg (nI_ge (b := 1000) hn (by decide)), if_pos (inb_nI hn (by decide)), nI_clamp (by omega)]
  have := h.2.2.2.1 n hn
  unfold XN at this
  cases e : T.2 n with
  | none => rw [e] at this; rw [if_pos this]; rfl
  | some q =>
    obtain ⟨w, b, d⟩ := q
    rw [e] at this
    obtain ⟨ok, -, -, -, h5, -⟩ := this
    rw [if_neg (by rw [h5]; exact nlen_ne (by have := ok.1; omega))]
    rfl
theorem ix_t (t n : Nat) : 1000 * nI t + nI n = nI (1000 * t + n) := by
  rw [show (1000 : Int32) = nI 1000 from rfl, pk_mul, nI_add]
theorem get5 {F a n : Nat} {T : Tn} {M : zM} (h : XT a T M) (hn : n < 1000) : Ton_sizeOf F a (nI n) M = some (nmI T n (fun q => nI q.1.length), M) ∧ Ton_lettersOf F a (nI n) M = some (nmI T n (fun q => nI (runW q.1).length), M) ∧ Ton_depthOf F a (nI n) M = some (nmI T n (fun q => nI q.2.2), M) ∧ Ton_clauseOf F a (nI n) M = some (nmI T n (fun q => nI q.2.1), M) := by
  unfold Ton_sizeOf Ton_lettersOf Ton_depthOf Ton_clauseOf nmI onm
  rw [has_ok h hn]
  have hx := h.2.2.2.1 n hn
  unfold XN at hx
  cases e : T.2 n with
  | none => simp [bI]
  | some q =>
    obtain ⟨w, b, d⟩ := q
    rw [e] at hx
    obtain ⟨ok, -, -, -, h5, h6, h7, h8, -⟩ := hx
    have e1 := inb_nI hn (show 1000 < 2 ^ 31 by decide)
    have e2 := nI_clamp (n := n) (by omega)
    simp [bI, e1, e2, h5, h6, h7, h8]
theorem getM {j : Nat} {q : Option Nm} {M : zM} (h : MN j q M) : M.1 74 j = onm q (fun z => nI z.1.length) ∧ M.1 76 j = onm q (fun z => nI z.2.2) ∧ M.1 77 j = onm q (fun z => nI z.2.1) := by
  unfold MN at h
  cases q with
  | none => exact h
  | some z => exact ⟨h.1, h.2.1, h.2.2.1⟩
theorem Mod_lettersOf_ok {F t n : Nat} {q : Option Nm} {M : zM} (h : MN (1000 * t + n) q M) (hq : ∀ z, q = some z → z.1.length ≤ 60) (ht : t < 3) (hn : n < 1000) : Mod_lettersOf F (nI t) (nI n) M = some (onm q (fun z => nI (runW z.1).length), M) := by
  have e1 : inb (nI (1000 * t + n)) 3000 = true := inb_nI (by omega) (by decide)
  have e2 : (nI (1000 * t + n)).toNatClampNeg = 1000 * t + n := nI_clamp (by omega)
  unfold Mod_lettersOf lt
  rw [ix_t]
  simp only [e1, e2, if_true]
  unfold MN at h
  cases q with
  | none => simp [h.1, onm]
  | some z =>
    have := hq z rfl
    simp only [h.1, h.2.2.2.1]
    rw [if_pos (nI_pos' (by omega))]
    rfl
theorem ok_letters {F : Nat} (x y : Int32) : Good (NW_letters F x y) (Mod_letters F x y) := by
  cases h1 : inb x 3 with
  | false => exact mkGood0 (fun _ => -1001) (fun S M h => by simp [NW_letters, NW_isTongue_ok, h1, bI]) (fun S M h0 h => by simp [Mod_letters, Mod_isTongue_ok, h1, bI])
  | true =>
    cases h2 : inb y 1000 with
    | false => exact mkGood0 (fun _ => -1001) (fun S M h => by simp [NW_letters, NW_isTongue_ok, NW_isNumber_ok, h1, h2, bI]) (fun S M h0 h => by simp [Mod_letters, Mod_isTongue_ok, Mod_isNumber_ok, h1, h2, bI])
    | true =>
      obtain ⟨t, ht, rfl⟩ := inb_of h1 (by decide)
      obtain ⟨n, hn, rfl⟩ := inb_of h2 (by decide)
      refine mkGood0 (fun S => nmI (S.2.2.1 t) n (fun q => nI (runW q.1).length)) (fun S M h => ?_) (fun S M h0 h => ?_)
      · simp [NW_letters, NW_isTongue_ok, NW_isNumber_ok, h1, h2, bI, tgA_n t ht, (get5 (F := F) (h.2.2.2.2.2.1 t ht) hn).2.1]
      · simp [Mod_letters, Mod_isTongue_ok, Mod_isNumber_ok, h1, h2, bI, Mod_lettersOf_ok (F := F) ((h.2.2.2.1 t ht).2 n hn) (fun z hz => ((h0.2.2.1 t ht).2 n hn z.1 z.2.1 z.2.2 hz).1.1) ht hn, nmI]
theorem ok_by {F : Nat} (x y : Int32) : Good (NW_by F x y) (Mod_by F x y) := by
  cases h1 : inb x 3 with
  | false => exact mkGood0 (fun _ => -1001) (fun S M h => by simp [NW_by, NW_isTongue_ok, h1, bI]) (fun S M h0 h => by simp [Mod_by, Mod_isTongue_ok, h1, bI])
  | true =>
    cases h2 : inb y 1000 with
    | false => exact mkGood0 (fun _ => -1001) (fun S M h => by simp [NW_by, NW_isTongue_ok, NW_isNumber_ok, h1, h2, bI]) (fun S M h0 h => by simp [Mod_by, Mod_isTongue_ok, Mod_isNumber_ok, h1, h2, bI])
    | true =>
      obtain ⟨t, ht, rfl⟩ := inb_of h1 (by decide)
      obtain ⟨n, hn, rfl⟩ := inb_of h2 (by decide)
      refine mkGood0 (fun S => nmI (S.2.2.1 t) n (fun q => nI q.2.1)) (fun S M h => ?_) (fun S M h0 h => ?_)
      · simp [NW_by, NW_isTongue_ok, NW_isNumber_ok, h1, h2, bI, tgA_n t ht, (get5 (F := F) (h.2.2.2.2.2.1 t ht) hn).2.2.2]
      · have e1 : inb (nI (1000 * t + n)) 3000 = true := inb_nI (by omega) (by decide)
        have e2 : (nI (1000 * t + n)).toNatClampNeg = 1000 * t + n := nI_clamp (by omega)
        simp [Mod_by, Mod_isTongue_ok, Mod_isNumber_ok, h1, h2, bI, ix_t, e1, e2, (getM ((h.2.2.2.1 t ht).2 n hn)).2.2, nmI]
theorem ok_deep {F : Nat} (x y : Int32) : Good (NW_deep F x y) (Mod_deep F x y) := by
  cases h1 : inb x 3 with
  | false => exact mkGood0 (fun _ => -1001) (fun S M h => by simp [NW_deep, NW_isTongue_ok, h1, bI]) (fun S M h0 h => by simp [Mod_deep, Mod_isTongue_ok, h1, bI])
  | true =>
    cases h2 : inb y 1000 with
    | false => exact mkGood0 (fun _ => -1001) (fun S M h => by simp [NW_deep, NW_isTongue_ok, NW_isNumber_ok, h1, h2, bI]) (fun S M h0 h => by simp [Mod_deep, Mod_isTongue_ok, Mod_isNumber_ok, h1, h2, bI])
    | true =>
      obtain ⟨t, ht, rfl⟩ := inb_of h1 (by decide)
      obtain ⟨n, hn, rfl⟩ := inb_of h2 (by decide)
      refine mkGood0 (fun S => nmI (S.2.2.1 t) n (fun q => nI q.2.2)) (fun S M h => ?_) (fun S M h0 h => ?_)
      · simp [NW_deep, NW_isTongue_ok, NW_isNumber_ok, h1, h2, bI, tgA_n t ht, (get5 (F := F) (h.2.2.2.2.2.1 t ht) hn).2.2.1]
      · have e1 : inb (nI (1000 * t + n)) 3000 = true := inb_nI (by omega) (by decide)
        have e2 : (nI (1000 * t + n)).toNatClampNeg = 1000 * t + n := nI_clamp (by omega)
        simp [Mod_deep, Mod_isTongue_ok, Mod_isNumber_ok, h1, h2, bI, ix_t, e1, e2, (getM ((h.2.2.2.1 t ht).2 n hn)).2.1, nmI]

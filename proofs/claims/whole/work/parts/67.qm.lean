/-! the class reads: numbers, words, signs, parts -/
def PX1 (k : Nat) (q : Prt) (M : zM) : Prop := M.1 8 k = nI q.1 ∧ M.1 9 k = bI q.2.1 ∧ (q.1 = 0 → M.2 10 k = pk q.2.2 0 ∧ M.1 11 k = nI q.2.2.length)
def pg (ps : List Prt) (j : Nat) : Prt := ps.getD j (0, false, [])
def cg (C : List Cls) (i : Nat) : Cls := C.getD i (0, 0, 0, [])
def CX1 (i : Nat) (c : Cls) (M : zM) : Prop := c.2.2.2.length ≤ 8 ∧ M.1 4 i = nI c.1 ∧ M.1 5 i = nI c.2.1 ∧ M.1 6 i = nI c.2.2.1 ∧ M.1 7 i = nI c.2.2.2.length ∧ ∀ j, j < c.2.2.2.length → PX1 (8 * i + j) (pg c.2.2.2 j) M
def CX (C : List Cls) (M : zM) : Prop := M.1 3 0 = nI C.length ∧ ∀ i, i < C.length → CX1 i (cg C i) M
def fXp (M0 M : zM) : Prop := (∀ b, b ≠ 1 → b ≠ 12 → (b < 3 ∨ 11 < b) → M.1 b = M0.1 b) ∧ ∀ b, b ≠ 10 → M.2 b = M0.2 b
def BX (w : List Nat) (C : List Cls) (M0 M : zM) : Prop := TX w M ∧ CX C M ∧ fXp M0 M ∧ M.1 12 3 = -1
def FXr (M0 : zM) (f : Flt) (M : zM) : Prop := M.1 12 2 = nI f.1 ∧ M.1 12 3 = nI f.2 ∧ fXp M0 M
theorem pg_1 {ps : List Prt} {q : Prt} {j : Nat} (h : j < ps.length) : pg (ps ++ [q]) j = pg ps j := by
  unfold pg; rw [List.getD_eq_getElem?_getD, List.getD_eq_getElem?_getD, List.getElem?_append_left h]
theorem pg_2 {ps : List Prt} {q : Prt} : pg (ps ++ [q]) ps.length = q := by
  unfold pg; rw [List.getD_eq_getElem?_getD, List.getElem?_append_right (Nat.le_refl _)]; simp
theorem cg_1 {C : List Cls} {c : Cls} {j : Nat} (h : j < C.length) : cg (C ++ [c]) j = cg C j := by
  unfold cg; rw [List.getD_eq_getElem?_getD, List.getD_eq_getElem?_getD, List.getElem?_append_left h]
theorem cg_2 {C : List Cls} {c : Cls} : cg (C ++ [c]) C.length = c := by
  unfold cg; rw [List.getD_eq_getElem?_getD, List.getElem?_append_right (Nat.le_refl _)]; simp
theorem CX.same {C : List Cls} {M M' : zM} (h : CX C M) (hs : ∀ b, 3 ≤ b → b ≤ 11 → M'.1 b = M.1 b ∧ M'.2 b = M.2 b) : CX C M' := by
  unfold CX CX1 PX1 at *
  rw [(hs 3 (by decide) (by decide)).1, (hs 4 (by decide) (by decide)).1, (hs 5 (by decide) (by decide)).1, (hs 6 (by decide) (by decide)).1, (hs 7 (by decide) (by decide)).1, (hs 8 (by decide) (by decide)).1, (hs 9 (by decide) (by decide)).1, (hs 11 (by decide) (by decide)).1, (hs 10 (by decide) (by decide)).2]
  exact h
theorem fXp.mv {M0 M : zM} {p : Nat} (h : fXp M0 M) : fXp M0 (mv M p) := ⟨fun b b1 b2 b3 => (mv_o b1).trans (h.1 b b1 b2 b3), h.2⟩
theorem BX.mv {w : List Nat} {C : List Cls} {M0 M : zM} {p : Nat} (h : BX w C M0 M) : BX w C M0 (mv M p) := ⟨h.1.mv, h.2.1.same (fun b b1 b2 => ⟨mv_o (by omega), rfl⟩), h.2.2.1.mv, (congrFun (mv_o (by decide)) 3).trans h.2.2.2⟩
theorem fail_ok {F f pl : Nat} {M0 M : zM} (h : fXp M0 M) : ∃ M1, Gra_fail F (nI f) (nI pl) M = some (0, M1) ∧ FXr M0 (f, pl) M1 :=
  ⟨zI (zI M 12 2 (nI f)) 12 3 (nI pl), rfl, by rw [zI_ne (Or.inr (by decide)), zI_in], zI_in, fun b b1 b2 b3 => (zI_other b2).trans ((zI_other b2).trans (h.1 b b1 b2 b3)), h.2⟩
theorem at_ok {F p : Nat} {M : zM} : Tex_at F (mv M p) = some (nI p, mv M p) := by
  unfold Tex_at; rw [mv_p]
theorem move_ok {F p q : Nat} {M : zM} : Tex_moveTo F (nI q) (mv M p) = some ((), mv M q) := by
  unfold Tex_moveTo lt; rw [mv_m]
theorem dgV_s (w : List Nat) (s j : Nat) : dgV w s (j + 1) = dgV w s j * 10 + (gB w (s + j) - 48) := rfl
theorem dgV_lt {w : List Nat} {s : Nat} : ∀ j, (∀ i, s ≤ i → i < s + j → qD (gB w i) = true) → dgV w s j < 10 ^ j := by
  intro j
  induction j with
  | zero => intro _; exact Nat.one_pos
  | succ j ih =>
    intro h
    have i1 := ih (fun i a b => h i a (by omega))
    have := of_decide_eq_true (h (s + j) (by omega) (by omega))
    rw [dgV_s, Nat.pow_succ]
    omega
theorem num_ok {F lo hi p : Nat} {w : List Nat} {C : List Cls} {M0 M : zM} (hB : okB w) (h : BX w C M0 M) (hp : p ≤ w.length) (hlo : lo < 1000) (hhi : hi < 1000) (hF : 3000 < F) : match numS w lo hi p with
    | .inl f => ∃ M1, Gra_parseNumber F (nI lo) (nI hi) (mv M p) = some (-1, M1) ∧ FXr M0 f M1
    | .inr z => Gra_parseNumber F (nI lo) (nI hi) (mv M p) = some (nI z.2, mv M z.1) := by
  have h240 := hB.1
  have a1 := wh_sp qB hp
  have s1 : p ≤ skB w p := a1.1
  have s2 : skB w p ≤ w.length := a1.2.1
  have a2 := wh_sp qD s2
  have e1 : skB w p ≤ enD w (skB w p) := a2.1
  have e2 : enD w (skB w p) ≤ w.length := a2.2.1
  have e3 : ∀ i, skB w p ≤ i → i < enD w (skB w p) → qD (gB w i) = true := a2.2.2.1
  have st : Gra_parseNumber F (nI lo) (nI hi) (mv M p) = if nI (enD w (skB w p)) = nI (skB w p) then (Gra_fail F 1 (nI (skB w p)) (mv M (skB w p))).bind fun (r_35, M_36) => some ((-1 : Int32), M_36) else (loopN (Gra_parseNumber_B49 F (nI lo) (nI hi) (nI (skB w p)) (nI (enD w (skB w p)))) F (0, nI (skB w p), mv M (skB w p))).bind fun (k_23, x5_20, x6_21, M_22) => if k_23 = 1 then Gra_parseNumber_J90 F (nI lo) (nI hi) (nI (skB w p)) (nI (enD w (skB w p))) x5_20 M_22 else none := by
    unfold Gra_parseNumber
    rw [sk_ok hB h.1 hp hF, Option.bind_some]
    dsimp only
    rw [at_ok, Option.bind_some]
    dsimp only
    rw [end_ok hB h.1 s2 sg_D hF, Option.bind_some]
    rfl
  rw [st]
  unfold numS
  generalize skB w p = s at *
  generalize enD w s = e at *
  by_cases c1 : e = s
  · rw [if_pos c1, if_pos (by rw [c1])]
    obtain ⟨M1, k1, k2⟩ := fail_ok (F := F) (f := 1) (pl := s) (h.2.2.1.mv (p := s))
    have k1 : Gra_fail F 1 (nI s) (mv M s) = some (0, M1) := k1
    rw [k1, Option.bind_some]
    exact ⟨M1, rfl, k2⟩
  · rw [if_neg c1, if_neg (fun q => c1 ((nI_eq (by omega) (by omega)).mp q))]
    have key := loopN_inv (body := Gra_parseNumber_B49 F (nI lo) (nI hi) (nI s) (nI e)) (I := fun i z => z = (nI (dgV w s i), nI (s + i), mv M s)) (Qx := fun q => q = (1, nI (dgV w s (min 3 (e - s))), 0, mv M s)) (N := min 3 (e - s)) (F := F) (s := (0, nI s, mv M s)) (fun i z hi' hz => by
      subst hz
      have hd := of_decide_eq_true (e3 (s + i) (by omega) (by omega))
      refine Or.inl ⟨_, ?_, rfl⟩
      unfold Gra_parseNumber_B49
      dsimp only [lt]
      rw [if_neg (nI_ge (by omega) (by omega)), show nI s + 3 = nI (s + 3) from nI_add s 3, if_neg (nI_ge (by omega) (by omega)), byte_ok hB h.1.mv (by omega), Option.bind_some]
      dsimp only
      unfold cI
      rw [if_pos (by omega), show nI (dgV w s i) * 10 = nI (dgV w s i * 10) from pk_mul _ 10, nI_add, show nI (dgV w s i * 10 + gB w (s + i)) - 48 = nI (dgV w s i * 10 + gB w (s + i) - 48) from pk_sub (b := 48) (by omega), nI_1, dgV_s, show dgV w s i * 10 + gB w (s + i) - 48 = dgV w s i * 10 + (gB w (s + i) - 48) by omega]
      rfl) (fun z hz => by
      subst hz
      refine ⟨_, ?_, (fun q => by cases q), rfl⟩
      unfold Gra_parseNumber_B49
      dsimp only
      by_cases c : e ≤ s + min 3 (e - s)
      · rw [if_pos (nI_le c (by omega))]
      · rw [if_neg (nI_ge (by omega) (by omega)), show nI s + 3 = nI (s + 3) from nI_add s 3, if_pos (nI_le (by omega) (by omega))]) (by omega) rfl
    obtain ⟨q, k0, rfl⟩ := key
    rw [k0, Option.bind_some]
    dsimp only
    rw [if_pos rfl]
    obtain ⟨M1, k1, k2⟩ := fail_ok (F := F) (f := 2) (pl := s) (h.2.2.1.mv (p := s))
    have j110 : Gra_parseNumber_J110 F (nI s) (mv M s) = some (-1, M1) := by
      unfold Gra_parseNumber_J110
      have k1 : Gra_fail F 2 (nI s) (mv M s) = some (0, M1) := k1
      rw [k1, Option.bind_some]
    unfold Gra_parseNumber_J90
    rw [pk_sub (by omega)]
    by_cases c2 : 3 < e - s
    · rw [if_pos (Or.inl c2), if_pos (show (3 : Int32) < nI (e - s) from nI_lt (a := 3) c2 (by omega)), j110]
      exact ⟨M1, rfl, k2⟩
    · rw [if_neg (show ¬ (3 : Int32) < nI (e - s) from nI_nlt (a := 3) (by omega) (by omega)), show min 3 (e - s) = e - s by omega]
      have vb := dgV_lt (w := w) (s := s) (e - s) (fun i a b => e3 i a (by omega))
      have vb : dgV w s (e - s) < 1000 := Nat.lt_of_lt_of_le vb (Nat.pow_le_pow_right (n := 10) (by decide) (show e - s ≤ 3 by omega))
      generalize dgV w s (e - s) = v at *
      by_cases c3 : v < lo
      · rw [if_pos (Or.inr (Or.inl c3)), if_pos (nI_lt c3 (by omega)), j110]
        exact ⟨M1, rfl, k2⟩
      · rw [if_neg (nI_nlt (by omega) (by omega))]
        by_cases c4 : hi < v
        · rw [if_pos (Or.inr (Or.inr c4)), if_neg (nI_ge c4 (by omega)), j110]
          exact ⟨M1, rfl, k2⟩
        · rw [if_neg (fun q => by omega), if_pos (nI_le (by omega) (by omega)), move_ok, Option.bind_some]
theorem b0 : ((0 : Int32) &&& 1 = 0) := by decide
theorem b1 : ((1 : Int32) &&& 1 = 1) := by decide
theorem n0 {α : Type} {x y : α} : (if 0 &&& 1 = 0 then x else y) = x := if_pos (by decide)
theorem n1 {α : Type} {x y : α} : (if 1 &&& 1 = 1 then x else y) = x := if_pos (by decide)
theorem failb {F f pl : Nat} {M0 M : zM} (h : fXp M0 M) : ∃ M1, ((Gra_fail F (nI f) (nI pl) M).bind fun (r, M) => if r &&& 1 = r then some (r, M) else none) = some ((0 : Int32), M1) ∧ FXr M0 (f, pl) M1 := by
  obtain ⟨M1, k1, k2⟩ := fail_ok (F := F) (f := f) (pl := pl) h
  refine ⟨M1, ?_, k2⟩
  rw [k1, Option.bind_some]
  exact if_pos b0
theorem kw_ok {F k p : Nat} {w : List Nat} {C : List Cls} {M0 M : zM} (hB : okB w) (h : BX w C M0 M) (hp : p ≤ w.length) (hk : k < 4) (hF : 3000 < F) : match kwS w (kwO k) p with
    | .inl f => ∃ M1, Gra_parseKeyword F k (mv M p) = some (0, M1) ∧ FXr M0 f M1
    | .inr p' => Gra_parseKeyword F k (mv M p) = some (1, mv M p') := by
  have h240 := hB.1
  have s2 : skB w p ≤ w.length := (wh_sp qB hp).2.1
  have st : Gra_parseKeyword F k (mv M p) = if bI (isW (kwO k) w (skB w p)) = 0 then (Gra_fail F 1 (nI (skB w p)) (mv M (skB w p))).bind fun (r_20, M_21) => if r_20 &&& 1 = r_20 then some (r_20, M_21) else none else some (1, mv M (skB w p + (kwO k).length)) := by
    unfold Gra_parseKeyword
    rw [sk_ok hB h.1 hp hF, Option.bind_some]
    dsimp only
    rw [word_ok hB h.1 s2 hk hF, Option.bind_some]
    dsimp only
    rw [at_ok, Option.bind_some, Option.bind_some]
    dsimp only
    unfold JStr_length
    rw [Option.bind_some, (kwT_ok k hk).1]
    dsimp only
    rw [show nI (skB w p) + Int32.ofNat (kwO k).length = nI (skB w p + (kwO k).length) from nI_add _ _, move_ok, Option.bind_some]
    dsimp only
    rw [n1]
  rw [st]
  unfold kwS
  cases isW (kwO k) w (skB w p) with
  | false =>
    rw [if_neg (show ¬ false = true by decide), if_pos (show bI false = 0 from rfl)]
    exact failb (f := 1) h.2.2.1.mv
  | true =>
    rw [if_pos (show true = true from rfl), if_neg (show ¬ bI true = 0 by decide)]
theorem sg_ok {F c p : Nat} {w : List Nat} {C : List Cls} {M0 M : zM} (hB : okB w) (h : BX w C M0 M) (hp : p ≤ w.length) (hc : c < 256) (hF : 3000 < F) : match sgS w c p with
    | .inl f => ∃ M1, Gra_parseSign F (nI c) (mv M p) = some (0, M1) ∧ FXr M0 f M1
    | .inr p' => Gra_parseSign F (nI c) (mv M p) = some (1, mv M p') := by
  have h240 := hB.1
  have s2 : skB w p ≤ w.length := (wh_sp qB hp).2.1
  have st : Gra_parseSign F (nI c) (mv M p) = if cI w (skB w p) = nI c then some (1, mv M (skB w p + 1)) else (Gra_fail F 1 (nI (skB w p)) (mv M (skB w p))).bind fun (r_20, M_21) => if r_20 &&& 1 = r_20 then some (r_20, M_21) else none := by
    unfold Gra_parseSign
    rw [sk_ok hB h.1 hp hF, Option.bind_some]
    dsimp only
    rw [cur_ok hB h.1 s2, Option.bind_some]
    dsimp only
    rw [at_ok, Option.bind_some, Option.bind_some]
    dsimp only
    rw [nI_1, move_ok, Option.bind_some]
    dsimp only
    rw [n1]
  rw [st]
  unfold sgS
  by_cases q : gB w (skB w p) = c
  · rw [if_pos q, if_pos ((cI_eq hB hc).mpr q)]
  · rw [if_neg q, if_neg (fun z => q ((cI_eq hB hc).mp z))]
    exact failb (f := 1) h.2.2.1.mv

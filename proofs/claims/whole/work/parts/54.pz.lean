/-! the class's columns of distances -/
def Pl (w : List Nat) (n : Nat) (M0 M1 : zM) : Prop := (∀ b, b ≠ 59 → M1.1 b = M0.1 b) ∧ (∀ b, b ≠ 60 → M1.2 b = M0.2 b) ∧ M1.1 59 1 = nI n ∧ ∀ s, s < 32 → ∀ i, i < 64 → bt (M1.2 60 s) i = (decide (i < n) && decide (sgA w i = s))
theorem sgA_in {w : List Nat} {n : Nat} (hw : ∀ x ∈ w, isLt x) (h : n < w.length) : sgA w n = sgn (w.getD n 0) ∧ 0 < sgA w n ∧ sgA w n < 32 := by
  have e : sgA w n = sgn (w.getD n 0) := (sgA_k hw (hw _ (getD_mem h))).mpr ⟨h, rfl⟩
  have := sgn_lt (hw _ (getD_mem h))
  rw [e]
  exact ⟨rfl, this.2, this.1⟩
theorem sgA_out {w : List Nat} {n : Nat} (h : w.length ≤ n) : sgA w n = 0 := by
  unfold sgA
  rw [List.getElem?_eq_none h]
theorem from_in {F a i : Nat} {x2 x3 : Int32} {w : List Nat} {M0 M : zM} (hw : okW w) (hi : i < 5) (h : Pl w (12 * i) M0 M) (hl : 12 * i ≤ w.length) (hF : 3000 < F) : ∃ M1, (loopN (Dis_from_B32 F a x2 x3 (pk w i)) F (55, M) = some (1, 0, M1) ∧ Pl w w.length M0 M1) ∨ (loopN (Dis_from_B32 F a x2 x3 (pk w i)) F (55, M) = some (2, 0, M1) ∧ Pl w (12 * (i + 1)) M0 M1 ∧ 12 * (i + 1) ≤ w.length) := by
  have lw := hw.1
  have key := loopN_inv (body := Dis_from_B32 F a x2 x3 (pk w i)) (I := fun j s => ∃ M1, s = (55 - nI (5 * j), M1) ∧ Pl w (12 * i + j) M0 M1 ∧ 12 * i + j ≤ w.length) (Qx := fun q => ∃ M1, (q = (1, 0, M1) ∧ Pl w w.length M0 M1) ∨ (q = (2, 0, M1) ∧ Pl w (12 * (i + 1)) M0 M1 ∧ 12 * (i + 1) ≤ w.length)) (N := 12) (F := F) (s := (55, M)) (fun j s hj hs => by
    obtain ⟨M1, rfl, p, hl⟩ := hs
    unfold Dis_from_B32
    dsimp only [lt]
    rw [(dn5 j hj).1, (dn5 j hj).2, if_neg (nI_pos (by omega)), sign_ok hw.2 hj, Option.bind_some]
    dsimp only
    by_cases c : 12 * i + j < w.length
    · obtain ⟨s1, s2, s3⟩ := sgA_in hw.2 c
      obtain ⟨p1, p2, p3, p4⟩ := p
      rw [if_neg (show ¬ nI (sgA w (12 * i + j)) = 0 from fun q => by have := (nI_eq (b := 0) (by omega) (by decide)).mp q; omega), if_pos (inb_nI s3 (by decide)), nI_clamp (by omega), p3]
      refine Or.inl ⟨_, rfl, _, rfl, ⟨fun b hb => (zI_other hb).trans (p1 b hb), fun b hb => (zL_other hb).trans (p2 b hb), ?_, fun s hs k hk => ?_⟩, by omega⟩
      · rw [zI_in]
        show M1.1 59 1 + 1 = _
        rw [p3, nI_1]; rfl
      · show bt ((zL M1 60 (sgA w (12 * i + j)) _).2 60 s) k = _
        by_cases z : s = sgA w (12 * i + j)
        · rw [z, zL_in, bt_or, p4 _ s3 k hk, bt_sl hk (by omega), bt_1]
          by_cases y : k = 12 * i + j
          · subst y
            simp
          · by_cases x : k < 12 * i + j
            · have a1 : k < 12 * i + (j + 1) := by omega
              have a2 : ¬ 12 * i + j ≤ k := by omega
              simp [x, a1, a2]
            · have a1 : ¬ k < 12 * i + (j + 1) := by omega
              have a2 : ¬ k - (12 * i + j) = 0 := by omega
              simp [x, a1, a2]
        · rw [zL_ne (Or.inr z), p4 s hs k hk]
          by_cases y : k = 12 * i + j
          · subst y
            simp
            exact fun q => z q.symm
          · by_cases x : k < 12 * i + j
            · have a1 : k < 12 * i + (j + 1) := by omega
              simp [x, a1]
            · have a1 : ¬ k < 12 * i + (j + 1) := by omega
              simp [x, a1]
    · rw [sgA_out (by omega), if_pos (show nI 0 = 0 from rfl)]
      refine Or.inr ⟨_, rfl, (fun q => by cases q), M1, Or.inl ⟨rfl, ?_⟩⟩
      rw [show w.length = 12 * i + j by omega]
      exact p) (fun s hs => by
    obtain ⟨M1, rfl, p, hl⟩ := hs
    refine ⟨(2, 0, M1), ?_, (fun q => by cases q), M1, Or.inr ⟨rfl, p, hl⟩⟩
    unfold Dis_from_B32
    dsimp only
    rw [if_pos (by decide)]) (by omega) ⟨M, rfl, h, hl⟩
  obtain ⟨q, e, M1, ⟨rfl, r⟩ | ⟨rfl, r⟩⟩ := key
  · exact ⟨M1, Or.inl ⟨e, r⟩⟩
  · exact ⟨M1, Or.inr ⟨e, r⟩⟩
theorem from_ok {F a n : Nat} {w : List Nat} {M : zM} (hw : okW w) (ha : a + 1 ≠ 60) (hN : 5 * n + 5 ≤ zN (a + 1)) (hN2 : zN (a + 1) < 2 ^ 31) (hp : ∀ i, i < 5 → M.2 (a + 1) (5 * n + i) = pk w i) (hF : 3000 < F) : ∃ M1, Dis_from F a (nI n) M = some ((), M1) ∧ Pl w w.length M M1 := by
  have lw := hw.1
  have key := loopN_inv (body := Dis_from_B15 F a (nI n)) (I := fun i s => ∃ M1, s = (nI i, M1) ∧ Pl w (12 * i) M M1 ∧ 12 * i ≤ w.length) (Qx := fun q => ∃ M1, (q = (1, 0, M1) ∨ q = (2, 0, M1)) ∧ Pl w w.length M M1) (N := 5) (F := F) (s := (0, zI (zFillL M 60 (zN 60) 0) 59 1 0)) (fun i s hi hs => by
    obtain ⟨M1, rfl, p, hl⟩ := hs
    unfold Dis_from_B15
    dsimp only [lt]
    rw [if_neg (show ¬ (5 : Int32) ≤ nI i from nI_ge (b := 5) hi (by decide)), signs_ok (by omega) hN2, Option.bind_some]
    dsimp only
    rw [p.2.1 (a + 1) ha, hp i hi]
    obtain ⟨M2, ⟨e, r⟩ | ⟨e, r1, r2⟩⟩ := from_in (F := F) (a := a) (x2 := nI n) (x3 := nI i) hw hi p hl hF
    · rw [e, Option.bind_some]
      exact Or.inr ⟨_, rfl, (fun q => by cases q), M2, Or.inl rfl, r⟩
    · rw [e, Option.bind_some]
      refine Or.inl ⟨(nI (i + 1), M2), ?_, M2, rfl, r1, r2⟩
      dsimp only
      rw [if_neg (by decide), if_pos rfl, nI_1]) (fun s hs => by
    obtain ⟨M1, rfl, p, hl⟩ := hs
    refine ⟨(2, 0, M1), ?_, (fun q => by cases q), M1, Or.inr rfl, ?_⟩
    · unfold Dis_from_B15
      exact if_pos (by decide)
    · rw [show w.length = 12 * 5 by omega]; exact p) (by omega) ⟨_, rfl, ⟨fun b hb => zI_other hb, fun b hb => zFillL_other hb, zI_in, fun s hs i hi => by
      show bt ((zFillL M 60 (zN 60) 0).2 60 s) i = _
      rw [zFillL_in (show s < zN 60 from hs), bt_0]
      simp⟩, by omega⟩
  obtain ⟨q, e, M1, hq, r⟩ := key
  refine ⟨M1, ?_, r⟩
  unfold Dis_from
  rw [fillL_ok (show zN 60 < 2 ^ 31 by decide) (show zN 60 < F from Nat.lt_trans (show zN 60 < 3000 by decide) hF), Option.bind_some]
  dsimp only [lt]
  rw [e, Option.bind_some]
  rcases hq with rfl | rfl <;> rfl
theorem lgc0 {x : Int64} : lg_cmp x 0 = 0 ↔ x = 0 := by
  have h1 := cmp_lt (x := x) (y := 0)
  have h2 := cmp_gt (x := x) (y := 0)
  constructor
  · intro h
    rw [h] at h1 h2
    have a1 : ¬ x < 0 := fun q => absurd (h1.mpr q) (by decide)
    have a2 : ¬ 0 < x := fun q => absurd (h2.mpr q) (by decide)
    rw [Int64.lt_iff_toInt_lt] at a1 a2
    exact Int64.toInt_inj.mp (by have e0 : (0 : Int64).toInt = 0 := by decide
                                 omega)
  · intro h; rw [h]; decide
def Dc (v w : List Nat) (n : Nat) (P N : Int64) (x9 : Int32) : Prop := Col (fun r => lev (gt0 v) (gt0 w) r n) P N ∧ x9 = nI (lev (gt0 v) (gt0 w) v.length n)
def botB (m : Nat) : Int64 := if m = 0 then 0 else sl 1 (nI (m - 1))
theorem to_step {F a n : Nat} {x2 x10 x13 x9 : Int32} {x11 P N : Int64} {v w : List Nat} {M0 M : zM} (hv : okW v) (hw : okW w) (hn : n < w.length) (hp : Pl v v.length M0 M) (hd : Dc v w n P N x9) (h13 : ¬ x13 < 0) (hs : Lin_signIn F x11 x13 M = some (nI (sgA w n), M)) : ∃ P' N' x9', Dis_to_B56 F a x2 (botB v.length) x10 x11 (P, N, x9, x13, M) = some (0, P', N', x9', x13 + (-5), M) ∧ Dc v w (n + 1) P' N' x9' := by
  obtain ⟨p1, p2, p3, p4⟩ := hp
  obtain ⟨d1, d2⟩ := hd
  have lv := hv.1
  have lw := hw.1
  obtain ⟨s1, s2, s3⟩ := sgA_in hw.2 hn
  have hk := hw.2 _ (getD_mem hn)
  have st := col_step (c := fun r => lev (gt0 v) (gt0 w) r n) (d := fun r => lev (gt0 v) (gt0 w) r (n + 1)) (P := P) (N := N) (E := M.2 60 (sgA w n)) (e := fun i => decide (gt0 v i = gt0 w n)) d1 (fun i hi => by
    rw [p4 _ s3 i hi, s1, ← Bool.decide_and, decide_eq_decide, sgA_k hv.2 hk]
    unfold gt0
    constructor
    · intro q; exact q.2.2
    · intro q
      by_cases c : i < v.length
      · exact ⟨c, c, q⟩
      · rw [List.getD_eq_getElem?_getD, List.getElem?_eq_none (show v.length ≤ i by omega)] at q
        have q : 0 = w.getD n 0 := q
        unfold isLt at hk
        omega) rfl (fun i => by
    show lev (gt0 v) (gt0 w) (i + 1) (n + 1) = _
    rw [lev_s]
    simp only [decide_eq_true_iff]
    omega)
  dsimp only at st
  obtain ⟨t1, t2⟩ := st
  have lb0 := lev_b (gt0 v) (gt0 w) v.length n
  have lb1 := lev_b (gt0 v) (gt0 w) v.length (n + 1)
  unfold Dis_to_B56
  dsimp only [lt]
  rw [if_neg h13, hs, Option.bind_some]
  dsimp only
  rw [if_neg (show ¬ nI (sgA w n) = 0 from fun q => by have := (nI_eq (b := 0) (by omega) (by decide)).mp q; omega), if_pos (inb_nI s3 (by decide)), nI_clamp (by omega), p3]
  generalize M.2 60 (sgA w n) = E at *
  have jj : ∀ y9, y9 = nI (lev (gt0 v) (gt0 w) v.length (n + 1)) → ∃ P' N' x9', Dis_to_J155 F a x2 N (botB v.length) y9 x10 x11 x13 E (N ||| (((((E &&& P) + P) ^^^ P) ||| E) ||| P) ^^^ (-1)) (P &&& ((((E &&& P) + P) ^^^ P) ||| E)) M = some (0, P', N', x9', x13 + (-5), M) ∧ Dc v w (n + 1) P' N' x9' := fun y9 h9 => ⟨_, _, y9, rfl, t1, h9⟩
  by_cases c0 : v.length = 0
  · rw [if_pos (show nI v.length = 0 by rw [c0]; rfl)]
    unfold Dis_to_J136
    dsimp only [lt]
    refine jj _ ?_
    rw [d2, nI_1, c0, lev_0, lev_0]
  · rw [if_neg (show ¬ nI v.length = 0 from fun q => c0 ((nI_eq (b := 0) (by omega) (by decide)).mp q))]
    have hb : botB v.length = sl 1 (nI (v.length - 1)) := if_neg c0
    obtain ⟨u1, u2, u3, u4⟩ := t2 (v.length - 1) (by omega)
    rw [show v.length - 1 + 1 = v.length by omega] at u1 u2 u3 u4
    have tA : (lg_cmp ((N ||| (((((E &&& P) + P) ^^^ P) ||| E) ||| P) ^^^ (-1)) &&& botB v.length) 0 = 0) ↔ ¬ lev (gt0 v) (gt0 w) v.length (n + 1) = lev (gt0 v) (gt0 w) v.length n + 1 := by
      rw [hb, lgc0, bt_bit (by omega), u1, decide_eq_false_iff_not]
    have tB : (lg_cmp ((P &&& ((((E &&& P) + P) ^^^ P) ||| E)) &&& botB v.length) 0 = 0) ↔ ¬ lev (gt0 v) (gt0 w) v.length n = lev (gt0 v) (gt0 w) v.length (n + 1) + 1 := by
      rw [hb, lgc0, bt_bit (by omega), u2, decide_eq_false_iff_not]
    by_cases c1 : lev (gt0 v) (gt0 w) v.length (n + 1) = lev (gt0 v) (gt0 w) v.length n + 1
    · rw [if_neg (fun q => (tA.mp q) c1)]
      unfold Dis_to_J136
      dsimp only [lt]
      refine jj _ ?_
      rw [d2, nI_1, c1]
    · rw [if_pos (tA.mpr c1)]
      by_cases c2 : lev (gt0 v) (gt0 w) v.length n = lev (gt0 v) (gt0 w) v.length (n + 1) + 1
      · rw [if_neg (fun q => (tB.mp q) c2)]
        refine jj _ ?_
        rw [d2, c2, ← nI_1]
        rw [Int32.add_assoc]
        exact Int32.add_zero _
      · rw [if_pos (tB.mpr c2)]
        refine jj _ ?_
        rw [d2]
        congr 1
        omega

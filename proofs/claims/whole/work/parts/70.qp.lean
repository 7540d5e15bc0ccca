/-! the class reads: clauses, the text -/
theorem skB_i {w : List Nat} {p : Nat} (hp : p ≤ w.length) : skB w (skB w p) = skB w p := wh_no (fun q => (wh_sp qB hp).2.2.2 q)
theorem numS_sk {w : List Nat} {lo hi p : Nat} (hp : p ≤ w.length) : numS w lo hi (skB w p) = numS w lo hi p := by
  unfold numS; rw [skB_i hp]
theorem open_ok {F a b u : Nat} {w : List Nat} {C : List Cls} {M0 M : zM} (h : BX w C M0 M) (hc : C.length < 12) : ∃ M1, Cla_open F (nI a) (nI b) (nI u) M = some ((), M1) ∧ BX w (C ++ [(a, b, u, [])]) M0 M1 ∧ M1.1 1 = M.1 1 := by
  obtain ⟨h1, h2, h3, h4⟩ := h
  have c0 := h2.1
  refine ⟨zI (zI (zI (zI (zI M 4 C.length (nI a)) 5 C.length (nI b)) 6 C.length (nI u)) 7 C.length 0) 3 0 (nI (C.length + 1)), ?_, ⟨⟨h1.1, h1.2⟩, ⟨?_, fun i hi => ?_⟩, ⟨fun b' c1 c2 c3 => ?_, h3.2⟩, h4⟩, rfl⟩
  · unfold Cla_open
    dsimp only [lt]
    have g : ∀ (a' k' : Nat) (v : Int32) (X : zM), a' ≠ 3 → (zI X a' k' v).1 3 0 = X.1 3 0 := fun a' k' v X ha => congrFun (zI_other (fun q => ha q.symm)) 0
    have g4 := fun k v X => g 4 k v X (by decide)
    have g5 := fun k v X => g 5 k v X (by decide)
    have g6 := fun k v X => g 6 k v X (by decide)
    have g7 := fun k v X => g 7 k v X (by decide)
    simp only [g4, g5, g6, g7, c0]
    rw [if_neg (show ¬ (12 : Int32) ≤ nI C.length from nI_ge (b := 12) hc (by decide)), if_pos (inb_nI hc (by decide)), if_pos (inb_nI hc (by decide)), if_pos (inb_nI hc (by decide)), if_pos (inb_nI hc (by decide)), nI_clamp (by omega), nI_1]
  · rw [zI_in, List.length_append]; rfl
  · rw [List.length_append] at hi
    have hi : i < C.length + 1 := hi
    by_cases z : i = C.length
    · subst z
      rw [cg_2]
      refine ⟨Nat.zero_le 8, ?_, ?_, ?_, ?_, fun j hj => absurd hj (Nat.not_lt_zero j)⟩
      · rw [zI_other (by decide), zI_other (by decide), zI_other (by decide), zI_other (by decide), zI_in]
      · rw [zI_other (by decide), zI_other (by decide), zI_other (by decide), zI_in]
      · rw [zI_other (by decide), zI_other (by decide), zI_in]
      · rw [zI_other (by decide), zI_in]; rfl
    · have hi2 : i < C.length := by omega
      have v := h2.2 i hi2
      rw [cg_1 hi2]
      obtain ⟨v0, v1, v2, v3, v4, v5⟩ := v
      refine ⟨v0, ?_, ?_, ?_, ?_, v5⟩
      · rw [zI_other (by decide), zI_other (by decide), zI_other (by decide), zI_other (by decide), zI_ne (Or.inr z)]; exact v1
      · rw [zI_other (by decide), zI_other (by decide), zI_other (by decide), zI_ne (Or.inr z), zI_other (by decide)]; exact v2
      · rw [zI_other (by decide), zI_other (by decide), zI_ne (Or.inr z), zI_other (by decide), zI_other (by decide)]; exact v3
      · rw [zI_other (by decide), zI_ne (Or.inr z), zI_other (by decide), zI_other (by decide), zI_other (by decide)]; exact v4
  · rw [zI_other (by omega), zI_other (by omega), zI_other (by omega), zI_other (by omega), zI_other (by omega)]
    exact h3.1 b' c1 c2 c3
theorem cg_mem {C : List Cls} {i : Nat} (h : i < C.length) : cg C i ∈ C := by
  unfold cg
  rw [List.getD_eq_getElem?_getD, List.getElem?_eq_getElem h]
  exact List.getElem_mem h
theorem cg_of {C : List Cls} {c : Cls} (h : c ∈ C) : ∃ i, i < C.length ∧ cg C i = c := by
  obtain ⟨i, hi, e⟩ := List.mem_iff_getElem.mp h
  refine ⟨i, hi, ?_⟩
  unfold cg
  rw [List.getD_eq_getElem?_getD, List.getElem?_eq_getElem hi]
  exact e
def okN (C : List Cls) : Prop := C.length ≤ 12 ∧ ∀ c ∈ C, c.1 < 1000 ∧ c.2.1 < 1000 ∧ c.2.2.1 ≤ 500
theorem hasW_ok {F n : Nat} {C : List Cls} {M : zM} (h : CX C M) (hN : okN C) (hn : n < 1000) (hF : 3000 < F) : Cla_hasWord F (nI n) M = some (bI (hasW C n), M) := by
  have h12 := hN.1
  have key := loopN_inv (body := Cla_hasWord_B2 F (nI n)) (I := fun i s => s = (nI i, M) ∧ ∀ j, j < i → ¬ ((cg C j).2.2.1 = 0 ∧ (cg C j).1 = n)) (Qx := fun q => (q = (1, 0, M) ∧ hasW C n = true) ∨ (q = (2, 0, M) ∧ hasW C n = false)) (N := C.length) (F := F) (s := (0, M)) (fun i s hi hs => by
    obtain ⟨rfl, g⟩ := hs
    obtain ⟨v0, v1, v2, v3, v4, v5⟩ := h.2 i hi
    have hc := hN.2 _ (cg_mem hi)
    unfold Cla_hasWord_B2
    dsimp only [lt]
    rw [h.1, if_neg (nI_ge hi (by omega))]
    unfold Cla_isWord
    rw [if_pos (inb_nI (by omega) (by decide)), nI_clamp (by omega), v3]
    by_cases c1 : (cg C i).2.2.1 = 0
    · rw [if_pos (show nI (cg C i).2.2.1 = 0 by rw [c1]; rfl), n1, Option.bind_some]
      dsimp only
      rw [if_neg (by decide), if_pos (inb_nI (by omega) (by decide)), v1]
      by_cases c2 : (cg C i).1 = n
      · rw [if_pos (by rw [c2])]
        refine Or.inr ⟨_, rfl, (fun q => by cases q), Or.inl ⟨rfl, ?_⟩⟩
        unfold hasW
        rw [List.any_eq_true]
        exact ⟨cg C i, cg_mem hi, by rw [decide_eq_true c1, decide_eq_true c2]; rfl⟩
      · rw [if_neg (fun q => c2 ((nI_eq (by omega) (by omega)).mp q)), nI_1]
        refine Or.inl ⟨_, rfl, rfl, fun j hj => ?_⟩
        by_cases z : j = i
        · rw [z]; exact fun q => c2 q.2
        · exact g j (by omega)
    · rw [if_neg (show ¬ nI (cg C i).2.2.1 = 0 from fun q => c1 ((nI_eq (b := 0) (by omega) (by decide)).mp q)), n0, Option.bind_some]
      dsimp only
      rw [if_pos rfl, nI_1]
      refine Or.inl ⟨_, rfl, rfl, fun j hj => ?_⟩
      by_cases z : j = i
      · rw [z]; exact fun q => c1 q.1
      · exact g j (by omega)) (fun s hs => by
    obtain ⟨rfl, g⟩ := hs
    refine ⟨(2, 0, M), ?_, (fun q => by cases q), Or.inr ⟨rfl, ?_⟩⟩
    · unfold Cla_hasWord_B2
      dsimp only
      rw [h.1, if_pos (nI_le (Nat.le_refl _) (by omega))]
    · unfold hasW
      rw [List.any_eq_false]
      intro c hc
      obtain ⟨i, hi, rfl⟩ := cg_of hc
      have := g i hi
      rw [Bool.and_eq_true, decide_eq_true_iff, decide_eq_true_iff]
      exact this) (by omega) ⟨rfl, fun j hj => absurd hj (Nat.not_lt_zero j)⟩
  obtain ⟨q, e, ⟨rfl, r⟩ | ⟨rfl, r⟩⟩ := key
  · unfold Cla_hasWord; rw [e, Option.bind_some, r]; rfl
  · unfold Cla_hasWord; rw [e, Option.bind_some, r]; rfl
theorem head_ok {F p : Nat} {w : List Nat} {C : List Cls} {M0 M : zM} (hB : okB w) (h : BX w C M0 M) (hp : p ≤ w.length) (hs : skB w p = p) (hw : isW (kwO 1) w p = true) (hc : C.length < 12) (hF : 3000 < F) : match headS w (p + 3) with
    | .inl f => ∃ M1, Gra_parseHead F (mv M p) = some (0, M1) ∧ FXr M0 f M1
    | .inr z => ∃ M1, Gra_parseHead F (mv M p) = some (1, mv M1 z.1) ∧ BX w (C ++ [(z.2.1, z.2.2.1, z.2.2.2, [])]) M0 M1 ∧ z.1 ≤ w.length := by
  have l3 := isW_len hp hw
  have e3 : enL w p ≤ w.length := (wh_sp qL hp).2.1
  have e3' : (kwO 1).length = 3 := rfl
  have k1 := kw_ok (F := F) (k := 1) hB h hp (by decide) hF
  unfold kwS at k1
  rw [hs, if_pos hw] at k1
  have k1 : Gra_parseKeyword F 1 (mv M p) = some (1, mv M (p + 3)) := k1
  unfold Gra_parseHead headS
  rw [k1, Option.bind_some]
  dsimp only
  rw [if_neg (by decide)]
  have k2 := num_ok (F := F) (lo := 0) (hi := 999) (p := p + 3) hB h (by omega) (by decide) (by decide) hF
  cases c2 : numS w 0 999 (p + 3) with
  | inl f =>
    rw [c2] at k2
    obtain ⟨M1, q1, q2⟩ := k2
    have q1 : Gra_parseNumber F 0 999 (mv M (p + 3)) = some (-1, M1) := q1
    rw [q1, Option.bind_some]
    exact ⟨M1, rfl, q2⟩
  | inr z2 =>
    obtain ⟨p1, a⟩ := z2
    have b2 := numS_le (by omega) c2
    rw [c2] at k2
    have k2 : Gra_parseNumber F 0 999 (mv M (p + 3)) = some (nI a, mv M p1) := k2
    rw [k2, Option.bind_some]
    dsimp only
    rw [if_neg (nlen_ne (by omega))]
    have k3 := kw_ok (F := F) (k := 2) (p := p1) hB h (by omega) (by decide) hF
    rw [show kwO 2 = [116, 111] from rfl] at k3
    cases c3 : kwS w [116, 111] p1 with
    | inl f =>
      rw [c3] at k3
      obtain ⟨M1, q1, q2⟩ := k3
      rw [q1, Option.bind_some]
      exact ⟨M1, rfl, q2⟩
    | inr p2 =>
      have b3 := kwS_le (by omega) c3
      rw [c3] at k3
      dsimp only at k3
      rw [k3, Option.bind_some]
      dsimp only
      rw [if_neg (by decide)]
      have k4 := num_ok (F := F) (lo := a) (hi := 999) (p := p2) hB h (by omega) (by omega) (by decide) hF
      cases c4 : numS w a 999 p2 with
      | inl f =>
        rw [c4] at k4
        obtain ⟨M1, q1, q2⟩ := k4
        have q1 : Gra_parseNumber F (nI a) 999 (mv M p2) = some (-1, M1) := q1
        rw [q1, Option.bind_some]
        exact ⟨M1, rfl, q2⟩
      | inr z4 =>
        obtain ⟨p3, b⟩ := z4
        have b4 := numS_le (by omega) c4
        rw [c4] at k4
        have k4 : Gra_parseNumber F (nI a) 999 (mv M p2) = some (nI b, mv M p3) := k4
        rw [k4, Option.bind_some]
        dsimp only
        rw [if_neg (nlen_ne (by omega))]
        have k5 := kw_ok (F := F) (k := 3) (p := p3) hB h (by omega) (by decide) hF
        rw [show kwO 3 = [98, 121] from rfl] at k5
        cases c5 : kwS w [98, 121] p3 with
        | inl f =>
          rw [c5] at k5
          obtain ⟨M1, q1, q2⟩ := k5
          rw [q1, Option.bind_some]
          exact ⟨M1, rfl, q2⟩
        | inr p4 =>
          have b5 := kwS_le (by omega) c5
          rw [c5] at k5
          dsimp only at k5
          rw [k5, Option.bind_some]
          dsimp only
          rw [if_neg (by decide)]
          have k6 := num_ok (F := F) (lo := 2) (hi := 500) (p := p4) hB h (by omega) (by decide) (by decide) hF
          cases c6 : numS w 2 500 p4 with
          | inl f =>
            rw [c6] at k6
            obtain ⟨M1, q1, q2⟩ := k6
            have q1 : Gra_parseNumber F 2 500 (mv M p4) = some (-1, M1) := q1
            rw [q1, Option.bind_some]
            exact ⟨M1, rfl, q2⟩
          | inr z6 =>
            obtain ⟨p5, u⟩ := z6
            have b6 := numS_le (by omega) c6
            rw [c6] at k6
            have k6 : Gra_parseNumber F 2 500 (mv M p4) = some (nI u, mv M p5) := k6
            rw [k6, Option.bind_some]
            dsimp only
            rw [if_neg (nlen_ne (by omega))]
            have k7 := sg_ok (F := F) (c := 58) (p := p5) hB h (by omega) (by decide) hF
            cases c7 : sgS w 58 p5 with
            | inl f =>
              rw [c7] at k7
              obtain ⟨M1, q1, q2⟩ := k7
              have q1 : Gra_parseSign F 58 (mv M p5) = some (0, M1) := q1
              rw [q1, Option.bind_some]
              exact ⟨M1, rfl, q2⟩
            | inr p6 =>
              have b7 := sgS_le (by decide) (by omega) c7
              rw [c7] at k7
              have k7 : Gra_parseSign F 58 (mv M p5) = some (1, mv M p6) := k7
              obtain ⟨M1, q1, q2, q3⟩ := open_ok (F := F) (a := a) (b := b) (u := u) (h.mv (p := p6)) hc
              have e1 : mv M1 p6 = M1 := mv_self (by rw [q3]; exact mv_p)
              rw [k7, Option.bind_some]
              dsimp only
              rw [if_neg (by decide), q1, Option.bind_some]
              refine ⟨M1, ?_, q2, b7.2⟩
              show some ((1 : Int32), M1) = some (1, mv M1 p6)
              rw [e1]

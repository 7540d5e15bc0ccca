theorem wrd_ok {F p : Nat} {w : List Nat} {C : List Cls} {M0 M : zM} (hB : okB w) (h : BX w C M0 M) (hN : okN C) (hp : p ≤ w.length) (hs : skB w p = p) (hw : isW (kwO 0) w p = true) (hc : C.length < 12) (hF : 3000 < F) : match wrdS w C (p + 4) with
    | .inl f => ∃ M1, Gra_parseWord F (mv M p) = some (0, M1) ∧ FXr M0 f M1
    | .inr z => ∃ M1, Gra_parseWord F (mv M p) = some (1, mv M1 z.1) ∧ BX w (C ++ [z.2]) M0 M1 ∧ z.1 ≤ w.length := by
  have l3 := isW_len hp hw
  have e3 : enL w p ≤ w.length := (wh_sp qL hp).2.1
  have e3' : (kwO 0).length = 4 := rfl
  have k1 := kw_ok (F := F) (k := 0) hB h hp (by decide) hF
  unfold kwS at k1
  rw [hs, if_pos hw] at k1
  have k1 : Gra_parseKeyword F 0 (mv M p) = some (1, mv M (p + 4)) := k1
  have hp4 : p + 4 ≤ w.length := by omega
  have s4 : skB w (p + 4) ≤ w.length := (wh_sp qB hp4).2.1
  unfold Gra_parseWord wrdS
  rw [k1, Option.bind_some]
  dsimp only
  rw [if_neg (by decide), sk_ok hB h.1 hp4 hF, Option.bind_some]
  dsimp only
  rw [at_ok, Option.bind_some]
  dsimp only
  have k2 := num_ok (F := F) (lo := 0) (hi := 999) (p := skB w (p + 4)) hB h s4 (by decide) (by decide) hF
  rw [numS_sk hp4] at k2
  cases c2 : numS w 0 999 (p + 4) with
  | inl f =>
    rw [c2] at k2
    obtain ⟨M1, q1, q2⟩ := k2
    have q1 : Gra_parseNumber F 0 999 (mv M (skB w (p + 4))) = some (-1, M1) := q1
    rw [q1, Option.bind_some]
    exact ⟨M1, rfl, q2⟩
  | inr z2 =>
    obtain ⟨p1, n⟩ := z2
    have b2 := numS_le hp4 c2
    rw [c2] at k2
    have k2 : Gra_parseNumber F 0 999 (mv M (skB w (p + 4))) = some (nI n, mv M p1) := k2
    rw [k2, Option.bind_some]
    dsimp only
    rw [if_neg (nlen_ne (by omega)), hasW_ok (h.mv (p := p1)).2.1 hN (by omega) hF, Option.bind_some]
    dsimp only
    cases c3 : hasW C n with
    | true =>
      rw [if_neg (show ¬ bI true = 0 by decide), if_pos (show true = true from rfl)]
      exact failb (f := 3) h.2.2.1.mv
    | false =>
      rw [if_pos (show bI false = 0 from rfl), if_neg (show ¬ false = true by decide)]
      obtain ⟨M1, q1, q2, q3⟩ := open_ok (F := F) (a := n) (b := n) (u := 0) (h.mv (p := p1)) hc
      have e1 : mv M1 p1 = M1 := mv_self (by rw [q3]; exact mv_p)
      have q1 : Cla_open F (nI n) (nI n) 0 (mv M p1) = some ((), M1) := q1
      have s5 : skB w p1 ≤ w.length := (wh_sp qB b2.2.1).2.1
      have q4 : Tex_skipBlanks F M1 = some ((), mv M1 (skB w p1)) := by
        have := sk_ok hB q2.1 b2.2.1 hF
        rw [e1] at this
        exact this
      rw [q1, Option.bind_some]
      dsimp only
      rw [q4, Option.bind_some]
      dsimp only
      have k5 := let_ok (F := F) (p := skB w p1) (br := false) hB q2 s5 hc (by show 0 < 8; decide) hF
      cases c5 : letS w (skB w p1) with
      | inl f =>
        rw [c5] at k5
        obtain ⟨M2, r1, r2⟩ := k5
        have r1 : Gra_parseLetters F 0 (mv M1 (skB w p1)) = some (0, M2) := r1
        rw [r1, Option.bind_some]
        exact ⟨M2, rfl, r2⟩
      | inr z5 =>
        obtain ⟨p2, l⟩ := z5
        have b5 := letS_le s5 c5
        rw [c5] at k5
        obtain ⟨M2, r1, r2⟩ := k5
        have r1 : Gra_parseLetters F 0 (mv M1 (skB w p1)) = some (1, mv M2 p2) := r1
        rw [r1, Option.bind_some]
        dsimp only
        rw [if_neg (by decide)]
        have k6 := sg_ok (F := F) (c := 59) (p := p2) hB r2 b5.2.1 (by decide) hF
        cases c6 : sgS w 59 p2 with
        | inl f =>
          rw [c6] at k6
          obtain ⟨M3, u1, u2⟩ := k6
          have u1 : Gra_parseSign F 59 (mv M2 p2) = some (0, M3) := u1
          rw [u1, Option.bind_some]
          exact ⟨M3, rfl, u2⟩
        | inr p3 =>
          have b6 := sgS_le (by decide) b5.2.1 c6
          rw [c6] at k6
          have k6 : Gra_parseSign F 59 (mv M2 p2) = some (1, mv M2 p3) := k6
          rw [k6, Option.bind_some]
          exact ⟨M2, rfl, r2, b6.2⟩
theorem cla_ok {F p : Nat} {w : List Nat} {C : List Cls} {M0 M : zM} (hB : okB w) (h : BX w C M0 M) (hN : okN C) (hp : p ≤ w.length) (hs : skB w p = p) (hF : 3000 < F) : match clS w C p with
    | .inl f => ∃ M1, Gra_parseClause F (mv M p) = some (0, M1) ∧ FXr M0 f M1
    | .inr z => ∃ M1, Gra_parseClause F (mv M p) = some (1, mv M1 z.1) ∧ BX w (C ++ [z.2]) M0 M1 ∧ z.1 ≤ w.length ∧ C.length < 12 := by
  have h12 := hN.1
  have h0 := (h.mv (p := p)).2.1.1
  have full : C.length = 12 → ∀ x, ∃ M1, Gra_parseClause_J39 F x (mv M p) = some (0, M1) ∧ FXr M0 (5, p) M1 := fun q x => by
    unfold Gra_parseClause_J39 Cla_isFull
    rw [h0, if_neg (show ¬ nI C.length < 12 from nI_nlt (b := 12) (by omega) (by omega)), n1, Option.bind_some]
    dsimp only
    rw [if_neg (by decide), at_ok, Option.bind_some]
    exact failb (f := 5) h.2.2.1.mv
  have nfull : C.length < 12 → Cla_isFull F (mv M p) = some (0, mv M p) := fun q => by
    unfold Cla_isFull
    rw [h0, if_pos (show nI C.length < 12 from nI_lt (b := 12) q (by decide)), n0]
  unfold Gra_parseClause clS
  rw [word_ok hB h.1 hp (k := 0) (by decide) hF, Option.bind_some]
  dsimp only
  rw [show ([119, 111, 114, 100] : List Nat) = kwO 0 from rfl, show ([102, 111, 114] : List Nat) = kwO 1 from rfl]
  cases c1 : isW (kwO 0) w p with
  | true =>
    rw [if_neg (show ¬ bI true = 0 by decide), if_pos (show true = true from rfl)]
    by_cases c2 : C.length = 12
    · rw [if_pos c2]; exact full c2 _
    · rw [if_neg c2]
      have k := wrd_ok (F := F) hB h hN hp hs c1 (by omega) hF
      have st : Gra_parseClause_J39 F (bI true) (mv M p) = (Gra_parseWord F (mv M p)).bind fun (r_18, M_19) => if r_18 &&& 1 = r_18 then some (r_18, M_19) else none := by
        unfold Gra_parseClause_J39
        rw [nfull (by omega), Option.bind_some]
        dsimp only
        rw [if_pos rfl, if_neg (show ¬ bI true = 0 by decide)]
      rw [st]
      cases e : wrdS w C (p + 4) with
      | inl f =>
        rw [e] at k
        obtain ⟨M1, k1, k2⟩ := k
        rw [k1, Option.bind_some]
        exact ⟨M1, if_pos b0, k2⟩
      | inr z =>
        rw [e] at k
        obtain ⟨M1, k1, k2, k3⟩ := k
        rw [k1, Option.bind_some]
        exact ⟨M1, if_pos b1, k2, k3, by omega⟩
  | false =>
    rw [if_pos (show bI false = 0 from rfl), if_neg (show ¬ false = true by decide), word_ok hB h.1 hp (k := 1) (by decide) hF, Option.bind_some]
    dsimp only
    cases c2 : isW (kwO 1) w p with
    | false =>
      rw [if_pos (show bI false = 0 from rfl), if_neg (show ¬ false = true by decide), at_ok, Option.bind_some]
      exact failb (f := 1) h.2.2.1.mv
    | true =>
      rw [if_neg (show ¬ bI true = 0 by decide), if_pos (show true = true from rfl)]
      by_cases c3 : C.length = 12
      · rw [if_pos c3]; exact full c3 _
      · rw [if_neg c3]
        have k := head_ok (F := F) hB h hp hs c2 (by omega) hF
        have st : Gra_parseClause_J39 F (bI false) (mv M p) = (Gra_parseHead F (mv M p)).bind fun (r_10, M_11) => if r_10 = 0 then some ((0 : Int32), M_11) else (Gra_parseParts F M_11).bind fun (r_14, M_15) => if r_14 = 0 then some ((0 : Int32), M_15) else some (1, M_15) := by
          unfold Gra_parseClause_J39
          rw [nfull (by omega), Option.bind_some]
          dsimp only
          rw [if_pos rfl, if_pos (show bI false = 0 from rfl)]
          rfl
        rw [st]
        unfold frmS
        cases e : headS w (p + 3) with
        | inl f =>
          rw [e] at k
          obtain ⟨M1, k1, k2⟩ := k
          rw [k1, Option.bind_some]
          exact ⟨M1, rfl, k2⟩
        | inr z =>
          obtain ⟨p1, a, b, u⟩ := z
          rw [e] at k
          obtain ⟨M1, k1, k2, k3⟩ := k
          dsimp only at k1 k2 k3
          rw [k1, Option.bind_some]
          dsimp only
          rw [if_neg (by decide)]
          have g := parts_ok (F := F) hB k2 k3 (by omega) hF
          cases e2 : parS w 241 p1 none [] with
          | inl f =>
            rw [e2] at g
            obtain ⟨M2, g1, g2⟩ := g
            rw [g1, Option.bind_some]
            exact ⟨M2, rfl, g2⟩
          | inr z2 =>
            obtain ⟨p2, ps⟩ := z2
            rw [e2] at g
            obtain ⟨M2, g1, g2, g3⟩ := g
            dsimp only at g1 g2 g3
            rw [g1, Option.bind_some]
            exact ⟨M2, rfl, g2, g3, by omega⟩
def okCl (c : Cls) : Prop := c.1 < 1000 ∧ c.2.1 < 1000 ∧ ((c.2.2.1 = 0 ∧ c.1 = c.2.1 ∧ ∃ l, c.2.2.2 = [(0, false, l)]) ∨ (2 ≤ c.2.2.1 ∧ c.2.2.1 ≤ 500)) ∧ c.2.2.2.length ≤ 8 ∧ ∀ q ∈ c.2.2.2, okP q
theorem parS_ok {w : List Nat} : ∀ f p o ps p' ps', p ≤ w.length → ps.length ≤ 8 → (∀ q ∈ ps, okP q) → parS w f p o ps = .inr (p', ps') → p < p' ∧ p' ≤ w.length ∧ ps'.length ≤ 8 ∧ ∀ q ∈ ps', okP q := by
  intro f
  induction f with
  | zero => intro p o ps p' ps' _ _ _ h; cases h
  | succ f ih =>
    intro p o ps p' ps' hp h8 hq h
    have a1 := wh_sp qB hp
    have s1 : p ≤ skB w p := a1.1
    have s2 : skB w p ≤ w.length := a1.2.1
    rw [parS_s] at h
    generalize skB w p = s at *
    by_cases cA : gB w s = 59 ∧ o = none ∧ 0 < ps.length
    · rw [if_pos cA] at h
      injection h with h
      injection h with h1 h2
      have := gB_in2 cA.1 (show 59 < 256 by decide)
      rw [← h2]
      exact ⟨by omega, by omega, h8, hq⟩
    · rw [if_neg cA] at h
      by_cases cB : gB w s = 91 ∧ o = none
      · rw [if_pos cB] at h
        have := gB_in2 cB.1 (show 91 < 256 by decide)
        have r := ih (s + 1) _ ps p' ps' (by omega) h8 hq h
        exact ⟨by omega, r.2⟩
      · rw [if_neg cB] at h
        by_cases cC : gB w s = 93 ∧ o ≠ none ∧ o.getD 0 < ps.length
        · rw [if_pos cC] at h
          have := gB_in2 cC.1 (show 93 < 256 by decide)
          have r := ih (s + 1) _ ps p' ps' (by omega) h8 hq h
          exact ⟨by omega, r.2⟩
        · rw [if_neg cC] at h
          cases e : prtS w s o.isSome ps.length with
          | inl t => rw [e] at h; cases h
          | inr z =>
            obtain ⟨p1, q⟩ := z
            rw [e] at h
            have pl := prtS_le s2 e
            have r := ih p1 o (ps ++ [q]) p' ps' pl.2.1 (by rw [List.length_append]; exact pl.2.2.2.2) (fun x hx => by
              rcases List.mem_append.mp hx with y | y
              · exact hq x y
              · rw [List.mem_singleton.mp y]; exact pl.2.2.1) h
            exact ⟨by omega, r.2⟩
theorem clS_ok {w : List Nat} {C : List Cls} {p p' : Nat} {c : Cls} (hp : p ≤ w.length) (h : clS w C p = .inr (p', c)) : okCl c ∧ p < p' := by
  unfold clS at h
  have e3 : enL w p ≤ w.length := (wh_sp qL hp).2.1
  by_cases c1 : isW [119, 111, 114, 100] w p = true
  · have l3 := isW_len hp c1
    have l3' : ([119, 111, 114, 100] : List Nat).length = 4 := rfl
    rw [if_pos c1] at h
    by_cases c2 : C.length = 12
    · rw [if_pos c2] at h; cases h
    · rw [if_neg c2] at h
      unfold wrdS at h
      cases d1 : numS w 0 999 (p + 4) with
      | inl f => rw [d1] at h; cases h
      | inr z1 =>
        obtain ⟨p1, n⟩ := z1
        have b1 := numS_le (by omega) d1
        rw [d1] at h
        dsimp only at h
        by_cases c3 : hasW C n = true
        · rw [if_pos c3] at h; cases h
        · rw [if_neg c3] at h
          have s5 : skB w p1 ≤ w.length := (wh_sp qB b1.2.1).2.1
          have s6 : p1 ≤ skB w p1 := (wh_sp qB b1.2.1).1
          cases d2 : letS w (skB w p1) with
          | inl f => rw [d2] at h; cases h
          | inr z2 =>
            obtain ⟨p2, l⟩ := z2
            have b2 := letS_le s5 d2
            rw [d2] at h
            dsimp only at h
            cases d3 : sgS w 59 p2 with
            | inl f => rw [d3] at h; cases h
            | inr p3 =>
              have b3 := sgS_le (by decide) b2.2.1 d3
              rw [d3] at h
              injection h with h
              injection h with h1 h2
              rw [← h2]
              refine ⟨⟨by show n < 1000; omega, by show n < 1000; omega, Or.inl ⟨rfl, rfl, l, rfl⟩, by show 1 ≤ 8; decide, fun q hq => ?_⟩, by omega⟩
              rw [List.mem_singleton.mp hq]
              exact Or.inl ⟨rfl, by show 0 < l.length; omega, b2.2.2.2.1, b2.2.2.2.2⟩
  · rw [if_neg c1] at h
    by_cases c2 : isW [102, 111, 114] w p = true
    · have l3 := isW_len hp c2
      have l3' : ([102, 111, 114] : List Nat).length = 3 := rfl
      rw [if_pos c2] at h
      by_cases c3 : C.length = 12
      · rw [if_pos c3] at h; cases h
      · rw [if_neg c3] at h
        unfold frmS headS at h
        cases d1 : numS w 0 999 (p + 3) with
        | inl f => rw [d1] at h; cases h
        | inr z1 =>
          obtain ⟨p1, a⟩ := z1
          have b1 := numS_le (by omega) d1
          rw [d1] at h
          dsimp only at h
          cases d2 : kwS w [116, 111] p1 with
          | inl f => rw [d2] at h; cases h
          | inr p2 =>
            have b2 := kwS_le b1.2.1 d2
            rw [d2] at h
            dsimp only at h
            cases d3 : numS w a 999 p2 with
            | inl f => rw [d3] at h; cases h
            | inr z3 =>
              obtain ⟨p3, b⟩ := z3
              have b3 := numS_le b2.2 d3
              rw [d3] at h
              dsimp only at h
              cases d4 : kwS w [98, 121] p3 with
              | inl f => rw [d4] at h; cases h
              | inr p4 =>
                have b4 := kwS_le b3.2.1 d4
                rw [d4] at h
                dsimp only at h
                cases d5 : numS w 2 500 p4 with
                | inl f => rw [d5] at h; cases h
                | inr z5 =>
                  obtain ⟨p5, u⟩ := z5
                  have b5 := numS_le b4.2 d5
                  rw [d5] at h
                  dsimp only at h
                  cases d6 : sgS w 58 p5 with
                  | inl f => rw [d6] at h; cases h
                  | inr p6 =>
                    have b6 := sgS_le (by decide) b5.2.1 d6
                    rw [d6] at h
                    dsimp only at h
                    cases d7 : parS w 241 p6 none [] with
                    | inl f => rw [d7] at h; cases h
                    | inr z7 =>
                      obtain ⟨p7, ps⟩ := z7
                      have b7 := parS_ok 241 p6 none [] p7 ps b6.2 (Nat.zero_le 8) (fun q hq => by cases hq) d7
                      rw [d7] at h
                      injection h with h
                      injection h with h1 h2
                      rw [← h2]
                      exact ⟨⟨by show a < 1000; omega, by show b < 1000; omega, Or.inr ⟨b5.2.2.1, b5.2.2.2⟩, b7.2.2.1, b7.2.2.2⟩, by omega⟩
    · rw [if_neg c2] at h; cases h
theorem okN_add {C : List Cls} {c : Cls} (h : okN C) (hc : C.length < 12) (h2 : okCl c) : okN (C ++ [c]) := by
  refine ⟨by rw [List.length_append]; exact hc, fun x hx => ?_⟩
  rcases List.mem_append.mp hx with y | y
  · exact h.2 x y
  · rw [List.mem_singleton.mp y]
    refine ⟨h2.1, h2.2.1, ?_⟩
    rcases h2.2.2.1 with q | q
    · omega
    · exact q.2
theorem txS_s (w : List Nat) (f p : Nat) (C : List Cls) : txS w (f + 1) p C = if skB w p = w.length then .inr C else match clS w C (skB w p) with
    | .inl e => .inl e
    | .inr (p', c) => txS w f p' (C ++ [c]) := rfl
theorem cI_m1 {w : List Nat} (hB : okB w) {p : Nat} (hp : p ≤ w.length) : cI w p = -1 ↔ p = w.length := by
  unfold cI
  by_cases c : p < w.length
  · rw [if_pos c]
    exact ⟨fun q => absurd q (nlen_ne (by have := gB_lt hB c; omega)), fun q => by omega⟩
  · rw [if_neg c]
    exact ⟨fun _ => by omega, fun _ => rfl⟩
theorem txL {F : Nat} {w : List Nat} {M0 : zM} (hB : okB w) (hF : 3000 < F) : ∀ (f i p : Nat) (C : List Cls) (M : zM) (G : Nat), i + f = 13 → i = C.length → p ≤ w.length → okN C → BX w C M0 M → f < G → match txS w f p C with
    | .inl t => ∃ M1, loopN (Gra_parse_B27 F) G (nI i, mv M p) = some (2, 0, M1) ∧ FXr M0 t M1
    | .inr C' => ∃ M1, loopN (Gra_parse_B27 F) G (nI i, mv M p) = some (1, 0, M1) ∧ BX w C' M0 M1 := by
  intro f
  induction f with
  | zero => intro i p C M G h1 h2 h3 h4; have := h4.1; omega
  | succ f ih =>
    intro i p C M G hif hiC hp hN h hG
    have h12 := hN.1
    cases G with
    | zero => omega
    | succ G =>
      have s2 : skB w p ≤ w.length := (wh_sp qB hp).2.1
      have ss := skB_i hp
      have st : Gra_parse_B27 F (nI i, mv M p) = if cI w (skB w p) = -1 then some (1, 0, mv M (skB w p)) else (Gra_parseClause F (mv M (skB w p))).bind fun (r_19, M_20) => if r_19 = 0 then some (2, 0, M_20) else some (0, nI (i + 1), M_20) := by
        unfold Gra_parse_B27
        dsimp only [lt]
        rw [if_neg (show ¬ (12 : Int32) < nI i from nI_nlt (a := 12) (by omega) (by omega)), sk_ok hB h.1 hp hF, Option.bind_some]
        dsimp only
        rw [cur_ok hB h.1 s2, Option.bind_some, nI_1]
      rw [txS_s]
      by_cases c1 : skB w p = w.length
      · rw [if_pos c1]
        refine ⟨mv M (skB w p), loopN_ex (q := (1, 0, mv M (skB w p))) ?_ (fun q => by cases q), h.mv⟩
        rw [st, if_pos ((cI_m1 hB s2).mpr c1)]
      · rw [if_neg c1]
        have k := cla_ok (F := F) hB h hN s2 ss hF
        have st2 : Gra_parse_B27 F (nI i, mv M p) = (Gra_parseClause F (mv M (skB w p))).bind fun (r_19, M_20) => if r_19 = 0 then some (2, 0, M_20) else some (0, nI (i + 1), M_20) := by
          rw [st, if_neg (fun q => c1 ((cI_m1 hB s2).mp q))]
        cases e : clS w C (skB w p) with
        | inl t =>
          rw [e] at k
          obtain ⟨M1, k1, k2⟩ := k
          refine ⟨M1, loopN_ex (q := (2, 0, M1)) ?_ (fun q => by cases q), k2⟩
          rw [st2, k1, Option.bind_some]
          rfl
        | inr z =>
          obtain ⟨p', c⟩ := z
          have oc := clS_ok s2 e
          rw [e] at k
          obtain ⟨M1, k1, k2, k3, k4⟩ := k
          have bd : Gra_parse_B27 F (nI i, mv M p) = some (0, nI (i + 1), mv M1 p') := by
            rw [st2, k1, Option.bind_some]
            dsimp only
            rw [if_neg (by decide)]
          rw [loopN_go bd]
          exact ih (i + 1) p' (C ++ [c]) M1 G (by omega) (by rw [List.length_append]; show i + 1 = C.length + 1; omega) k3 (okN_add hN k4 oc.1) k2 (by omega)
theorem parse_ok {F : Nat} {w : List Nat} {M : zM} (hB : okB w) (hT : TX w M) (hF : 3000 < F) : match txS w 13 0 [] with
    | .inl t => ∃ M1, Gra_parse F M = some (0, M1) ∧ FXr M t M1
    | .inr C => ∃ M1, Gra_parse F M = some (1, M1) ∧ BX w C M M1 := by
  have hb : BX w [] M (zI (zI (zI M 12 2 0) 12 3 (-1)) 3 0 0) := ⟨⟨hT.1, hT.2⟩, ⟨zI_in, fun i hi => absurd hi (Nat.not_lt_zero i)⟩, ⟨fun b b1 b2 b3 => by rw [zI_other (by omega), zI_other b2, zI_other b2], fun b _ => rfl⟩, by rw [zI_other (by decide), zI_in]⟩
  have k := txL (F := F) (M0 := M) hB hF 13 0 0 [] _ F rfl rfl (Nat.zero_le _) ⟨by decide, fun c hc => by cases hc⟩ hb (by omega)
  have st : Gra_parse F M = (loopN (Gra_parse_B27 F) F (nI 0, mv (zI (zI (zI M 12 2 0) 12 3 (-1)) 3 0 0) 0)).bind fun (k_27, x1_25, M_26) => if k_27 = 1 then some ((1 : Int32), M_26) else if k_27 = 2 then some (0, M_26) else if k_27 = 3 then some (0, M_26) else none := by
    unfold Gra_parse Cla_empty Tex_moveTo
    dsimp only [lt]
    rw [Option.bind_some]
    dsimp only
    rw [Option.bind_some]
    rfl
  rw [st]
  cases e : txS w 13 0 [] with
  | inl t =>
    rw [e] at k
    obtain ⟨M1, k1, k2⟩ := k
    rw [k1, Option.bind_some]
    exact ⟨M1, rfl, k2⟩
  | inr C =>
    rw [e] at k
    obtain ⟨M1, k1, k2⟩ := k
    rw [k1, Option.bind_some]
    exact ⟨M1, rfl, k2⟩

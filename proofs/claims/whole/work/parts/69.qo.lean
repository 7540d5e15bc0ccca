/-! the class reads: parts one behind the other -/
theorem ask_ok {F p : Nat} {br : Bool} {w : List Nat} {C0 : List Cls} {c : Cls} {M0 M : zM} (hB : okB w) (h : BX w (C0 ++ [c]) M0 M) (hp : p < w.length) (hc : C0.length < 12) (h8 : c.2.2.2.length < 8) : if isK (gB w (p + 1)) = true then ∃ M1, Gra_parseAsked F (bI br) (mv M p) = some (1, mv M1 (p + 2)) ∧ BX w (C0 ++ [addP c (gB w (p + 1), br, [])]) M0 M1 else ∃ M1, Gra_parseAsked F (bI br) (mv M p) = some (0, M1) ∧ FXr M0 (1, p + 1) M1 := by
  have h240 := hB.1
  unfold Gra_parseAsked
  rw [at_ok, Option.bind_some]
  dsimp only [lt]
  rw [nI_1, byte_ok hB h.1.mv (by omega), Option.bind_some]
  dsimp only
  have eqs : ∀ k, k < 256 → (cI w (p + 1) = nI k ↔ gB w (p + 1) = k) := fun k hk => cI_eq hB hk
  by_cases ck : isK (gB w (p + 1)) = true
  · rw [if_pos ck]
    have hlt := isK_lt ck
    have ec : cI w (p + 1) = nI (gB w (p + 1)) := (eqs _ hlt.1).mpr rfl
    obtain ⟨M1, k1, k2, k3⟩ := add_ok (F := F) (q := (gB w (p + 1), br, [])) (x3 := 0) (x5 := 0) (h.mv (p := p)) hc h8 (fun q => absurd q hlt.2)
    have e1 : mv M1 p = M1 := mv_self (by rw [k3]; exact mv_p)
    have j56 : Gra_parseAsked_J56 F (bI br) (nI (p + 1)) (cI w (p + 1)) (mv M p) = some (1, mv M1 (p + 2)) := by
      unfold Gra_parseAsked_J56
      rw [ec, k1, Option.bind_some]
      dsimp only
      rw [nI_1, show Tex_moveTo F (nI (p + 1 + 1)) M1 = some ((), mv M1 (p + 2)) from rfl, Option.bind_some]
      dsimp only
      rw [n1]
    rw [j56]
    have hk := of_decide_eq_true ck
    refine ⟨M1, ?_, k2⟩
    by_cases z1 : cI w (p + 1) = 113
    · rw [if_pos z1]
    · rw [if_neg z1]
      by_cases z2 : cI w (p + 1) = 116
      · rw [if_pos z2]
      · rw [if_neg z2]
        by_cases z3 : cI w (p + 1) = 114
        · rw [if_pos z3]
        · rw [if_neg z3]
          by_cases z4 : cI w (p + 1) = 99
          · rw [if_pos z4]
          · rw [if_neg z4]
            have z5 : cI w (p + 1) = 110 := by
              rcases hk with y | y | y | y | y
              · exact absurd ((eqs 113 (by decide)).mpr y) z1
              · exact absurd ((eqs 116 (by decide)).mpr y) z2
              · exact absurd ((eqs 114 (by decide)).mpr y) z3
              · exact absurd ((eqs 99 (by decide)).mpr y) z4
              · exact (eqs 110 (by decide)).mpr y
            rw [if_pos z5]
  · rw [if_neg ck]
    have nk : ∀ k, isK k = true → k < 256 → ¬ cI w (p + 1) = nI k := fun k h1 h2 q => ck (by rw [(eqs k h2).mp q]; exact h1)
    rw [if_neg (show ¬ cI w (p + 1) = 113 from nk 113 (by decide) (by decide)), if_neg (show ¬ cI w (p + 1) = 116 from nk 116 (by decide) (by decide)), if_neg (show ¬ cI w (p + 1) = 114 from nk 114 (by decide) (by decide)), if_neg (show ¬ cI w (p + 1) = 99 from nk 99 (by decide) (by decide)), if_neg (show ¬ cI w (p + 1) = 110 from nk 110 (by decide) (by decide))]
    exact failb (f := 1) h.2.2.1.mv
theorem cI_rng {w : List Nat} (hB : okB w) {p : Nat} : (¬ cI w p < 97 ∧ cI w p ≤ 122) ↔ (97 ≤ gB w p ∧ gB w p ≤ 122) := by
  unfold cI
  by_cases c : p < w.length
  · have hb := gB_lt hB c
    rw [if_pos c]
    constructor
    · rintro ⟨h1, h2⟩
      refine ⟨?_, ?_⟩
      · rcases Nat.lt_or_ge (gB w p) 97 with q | q
        · exact absurd (show nI (gB w p) < 97 from nI_lt (b := 97) q (by decide)) h1
        · exact q
      · rcases Nat.lt_or_ge 122 (gB w p) with q | q
        · exact absurd h2 (show ¬ nI (gB w p) ≤ 122 from nI_ge (a := 122) q (by omega))
        · exact q
    · rintro ⟨h1, h2⟩
      exact ⟨show ¬ nI (gB w p) < 97 from nI_nlt (b := 97) h1 (by omega), show nI (gB w p) ≤ 122 from nI_le (b := 122) h2 (by decide)⟩
  · rw [if_neg c, gB_out (by omega)]
    constructor
    · rintro ⟨h1, _⟩; exact absurd (by decide) h1
    · rintro ⟨_, h2⟩; omega
theorem prt_ok {F p : Nat} {br : Bool} {w : List Nat} {C0 : List Cls} {c : Cls} {M0 M : zM} (hB : okB w) (h : BX w (C0 ++ [c]) M0 M) (hp : p ≤ w.length) (hc : C0.length < 12) (h8 : c.2.2.2.length ≤ 8) (hF : 3000 < F) : match prtS w p br c.2.2.2.length with
    | .inl f => ∃ M1, Gra_parsePart F (cI w p) (bI br) (mv M p) = some (0, M1) ∧ FXr M0 f M1
    | .inr z => ∃ M1, Gra_parsePart F (cI w p) (bI br) (mv M p) = some (1, mv M1 z.1) ∧ BX w (C0 ++ [addP c z.2]) M0 M1 := by
  have h240 := hB.1
  have j18 : ∃ M1, Gra_parsePart_J18 F (mv M p) = some (0, M1) ∧ FXr M0 (1, p) M1 := by
    unfold Gra_parsePart_J18
    rw [at_ok, Option.bind_some]
    exact failb (f := 1) h.2.2.1.mv
  have lp := latest_ok (F := F) (h.mv (p := p)) hc
  have rr : ∀ (b : Bool) (M : zM), (if bI b &&& 1 = bI b then some (bI b, M) else none) = some (bI b, M) := fun b M => if_pos (bI_and b)
  unfold prtS
  by_cases c1 : gB w p = 35 ∨ (97 ≤ gB w p ∧ gB w p ≤ 122)
  · rw [if_pos c1]
    have hlt : p < w.length := by
      rcases c1 with q | q
      · exact gB_in2 q (by decide)
      · exact gB_in2 (w := w) (p := p) rfl (by omega)
    have st : Gra_parsePart F (cI w p) (bI br) (mv M p) = Gra_parsePart_J31 F (cI w p) (bI br) (mv M p) := by
      unfold Gra_parsePart
      by_cases q : cI w p = 35
      · rw [if_pos q]
      · rw [if_neg q]
        have c2 : 97 ≤ gB w p ∧ gB w p ≤ 122 := by
          rcases c1 with z | z
          · exact absurd ((cI_eq hB (c := 35) (by decide)).mpr z) q
          · exact z
        have := (cI_rng hB).mpr c2
        rw [if_neg this.1, if_pos this.2]
    rw [st]
    unfold Gra_parsePart_J31
    rw [lp, Option.bind_some]
    dsimp only
    by_cases c2 : 8 ≤ c.2.2.2.length
    · rw [if_pos c2, if_neg (show ¬ nI c.2.2.2.length < 8 from nI_nlt (b := 8) c2 (by omega)), at_ok, Option.bind_some]
      exact failb (f := 6) h.2.2.1.mv
    · rw [if_neg c2, if_pos (show nI c.2.2.2.length < 8 from nI_lt (b := 8) (by omega) (by decide))]
      by_cases c3 : gB w p = 35
      · rw [if_pos c3, if_pos (show cI w p = 35 from (cI_eq hB (c := 35) (by decide)).mpr c3)]
        have k := ask_ok (F := F) (br := br) hB h hlt hc (by omega)
        by_cases c4 : isK (gB w (p + 1)) = true
        · rw [if_pos c4] at k ⊢
          obtain ⟨M1, k1, k2⟩ := k
          rw [k1, Option.bind_some]
          exact ⟨M1, if_pos b1, k2⟩
        · rw [if_neg c4] at k ⊢
          obtain ⟨M1, k1, k2⟩ := k
          rw [k1, Option.bind_some]
          exact ⟨M1, if_pos b0, k2⟩
      · rw [if_neg c3, if_neg (show ¬ cI w p = 35 from fun q => c3 ((cI_eq hB (c := 35) (by decide)).mp q))]
        have k := let_ok (F := F) (br := br) hB h hp hc (by omega) hF
        cases e : letS w p with
        | inl f =>
          rw [e] at k
          obtain ⟨M1, k1, k2⟩ := k
          rw [k1, Option.bind_some]
          exact ⟨M1, if_pos b0, k2⟩
        | inr z =>
          rw [e] at k
          obtain ⟨M1, k1, k2⟩ := k
          rw [k1, Option.bind_some]
          exact ⟨M1, if_pos b1, k2⟩
  · rw [if_neg c1]
    have st : Gra_parsePart F (cI w p) (bI br) (mv M p) = Gra_parsePart_J18 F (mv M p) := by
      unfold Gra_parsePart
      rw [if_neg (show ¬ cI w p = 35 from fun q => c1 (Or.inl ((cI_eq hB (c := 35) (by decide)).mp q)))]
      by_cases q : cI w p < 97
      · rw [if_pos q]
      · rw [if_neg q]
        by_cases q2 : cI w p ≤ 122
        · exact absurd (Or.inr ((cI_rng hB).mp ⟨q, q2⟩)) c1
        · rw [if_neg q2]
    rw [st]
    exact j18
def oI (o : Option Nat) : Int32 := match o with
  | none => -1
  | some k => nI k
theorem loopN_go {σ : Type} {body : σ → Option (Nat × σ)} {s s' : σ} {G : Nat} (h : body s = some (0, s')) : loopN body (G + 1) s = loopN body G s' := by simp [loopN, h]
theorem loopN_ex {σ : Type} {body : σ → Option (Nat × σ)} {s : σ} {q : Nat × σ} {G : Nat} (h : body s = some q) (hq : q.1 ≠ 0) : loopN body (G + 1) s = some q := by simp [loopN, h, hq]
theorem parS_s (w : List Nat) (f p : Nat) (o : Option Nat) (ps : List Prt) : parS w (f + 1) p o ps = if gB w (skB w p) = 59 ∧ o = none ∧ 0 < ps.length then .inr (skB w p + 1, ps)
    else if gB w (skB w p) = 91 ∧ o = none then parS w f (skB w p + 1) (some ps.length) ps
    else if gB w (skB w p) = 93 ∧ o ≠ none ∧ o.getD 0 < ps.length then parS w f (skB w p + 1) none ps
    else match prtS w (skB w p) o.isSome ps.length with
      | .inl e => .inl e
      | .inr (p', q) => parS w f p' o (ps ++ [q]) := rfl
theorem parL {F : Nat} {w : List Nat} {C0 : List Cls} {a b u : Nat} {M0 : zM} (hB : okB w) (hc : C0.length < 12) (hF : 3000 < F) : ∀ (f i p : Nat) (o : Option Nat) (ps : List Prt) (M : zM) (G : Nat), i + f = 241 → i ≤ p → p ≤ w.length → (∀ k, o = some k → k ≤ 8) → ps.length ≤ 8 → BX w (C0 ++ [(a, b, u, ps)]) M0 M → f < G → match parS w f p o ps with
    | .inl t => ∃ M1, loopN (Gra_parseParts_B4 F) G (oI o, nI i, mv M p) = some (2, 0, 0, M1) ∧ FXr M0 t M1
    | .inr z => ∃ M1 s, loopN (Gra_parseParts_B4 F) G (oI o, nI i, mv M p) = some (1, 0, 0, mv M1 s) ∧ BX w (C0 ++ [(a, b, u, z.2)]) M0 M1 ∧ s < w.length ∧ skB w s = s ∧ gB w s = 59 ∧ z.1 = s + 1 ∧ z.2.length ≤ 8 := by
  have h240 := hB.1
  intro f
  induction f with
  | zero => intro i p o ps M G h1 h2 h3; omega
  | succ f ih =>
    intro i p o ps M G hif hip hpw ho hps h hG
    cases G with
    | zero => omega
    | succ G =>
      have a1 := wh_sp qB hpw
      have s1 : p ≤ skB w p := a1.1
      have s2 : skB w p ≤ w.length := a1.2.1
      have ss : skB w (skB w p) = skB w p := wh_no (fun q => a1.2.2.2 q)
      have skp := sk_ok hB h.1 hpw hF
      rw [parS_s]
      generalize skB w p = s at *
      have eqc : ∀ k, k < 256 → (cI w s = nI k ↔ gB w s = k) := fun k hk => cI_eq hB hk
      have e59 : cI w s = 59 ↔ gB w s = 59 := eqc 59 (by decide)
      have e91 : cI w s = 91 ↔ gB w s = 91 := eqc 91 (by decide)
      have e93 : cI w s = 93 ↔ gB w s = 93 := eqc 93 (by decide)
      have on : oI o = -1 ↔ o = none := by
        cases o with
        | none => exact ⟨fun _ => rfl, fun _ => rfl⟩
        | some k => exact ⟨fun q => absurd q (nlen_ne (by have := ho k rfl; omega)), fun q => by cases q⟩
      have st : Gra_parseParts_B4 F (oI o, nI i, mv M p) = if cI w s = 59 then if oI o = (-1) then if nI ps.length ≤ 0 then Gra_parseParts_J58 F (oI o) (nI i) (cI w s) (nI ps.length) (mv M s) else some (1, 0, 0, mv M s) else Gra_parseParts_J58 F (oI o) (nI i) (cI w s) (nI ps.length) (mv M s) else Gra_parseParts_J58 F (oI o) (nI i) (cI w s) (nI ps.length) (mv M s) := by
        unfold Gra_parseParts_B4
        dsimp only
        rw [if_neg (show ¬ (240 : Int32) < nI i from nI_nlt (a := 240) (by omega) (by omega)), skp, Option.bind_some]
        dsimp only
        rw [cur_ok hB h.1 s2, Option.bind_some]
        dsimp only
        rw [latest_ok (h.mv (p := s)) hc, Option.bind_some]
      by_cases cA : gB w s = 59 ∧ o = none ∧ 0 < ps.length
      · rw [if_pos cA]
        refine ⟨M, s, loopN_ex (q := (1, 0, 0, mv M s)) ?_ (fun q => by cases q), h, gB_in2 cA.1 (by decide), ss, cA.1, rfl, hps⟩
        rw [st, if_pos (e59.mpr cA.1), if_pos (on.mpr cA.2.1), if_neg (show ¬ nI ps.length ≤ 0 from nI_ge (a := 0) cA.2.2 (by omega))]
      · rw [if_neg cA]
        have s58 : Gra_parseParts_B4 F (oI o, nI i, mv M p) = Gra_parseParts_J58 F (oI o) (nI i) (cI w s) (nI ps.length) (mv M s) := by
          rw [st]
          by_cases z1 : cI w s = 59
          · rw [if_pos z1]
            by_cases z2 : oI o = -1
            · rw [if_pos z2]
              by_cases z3 : 0 < ps.length
              · exact absurd ⟨e59.mp z1, on.mp z2, z3⟩ cA
              · rw [if_pos (show nI ps.length ≤ 0 from nI_le (b := 0) (by omega) (by decide))]
            · rw [if_neg z2]
          · rw [if_neg z1]
        by_cases cB : gB w s = 91 ∧ o = none
        · rw [if_pos cB]
          have hlt := gB_in2 cB.1 (show 91 < 256 by decide)
          have bd : Gra_parseParts_B4 F (oI o, nI i, mv M p) = some (0, oI (some ps.length), nI (i + 1), mv M (s + 1)) := by
            rw [s58]
            unfold Gra_parseParts_J58
            rw [if_pos (e91.mpr cB.1), if_pos (on.mpr cB.2), at_ok, Option.bind_some]
            dsimp only
            rw [nI_1, move_ok, Option.bind_some]
            dsimp only [lt]
            rw [nI_1]
            rfl
          rw [loopN_go bd]
          exact ih (i + 1) (s + 1) (some ps.length) ps M G (by omega) (by omega) (by omega) (fun k hk => by injection hk with hk; omega) hps h (by omega)
        · rw [if_neg cB]
          have s91 : Gra_parseParts_B4 F (oI o, nI i, mv M p) = Gra_parseParts_J91 F (oI o) (nI i) (cI w s) (nI ps.length) (mv M s) := by
            rw [s58]
            unfold Gra_parseParts_J58
            by_cases z1 : cI w s = 91
            · rw [if_pos z1]
              by_cases z2 : oI o = -1
              · exact absurd ⟨e91.mp z1, on.mp z2⟩ cB
              · rw [if_neg z2]
            · rw [if_neg z1]
          by_cases cC : gB w s = 93 ∧ o ≠ none ∧ o.getD 0 < ps.length
          · rw [if_pos cC]
            have hlt := gB_in2 cC.1 (show 93 < 256 by decide)
            have bd : Gra_parseParts_B4 F (oI o, nI i, mv M p) = some (0, oI none, nI (i + 1), mv M (s + 1)) := by
              rw [s91]
              unfold Gra_parseParts_J91
              rw [if_pos (e93.mpr cC.1), if_neg (fun q => cC.2.1 (on.mp q))]
              cases o with
              | none => exact absurd rfl cC.2.1
              | some k =>
                have hk : k < ps.length := cC.2.2
                rw [if_neg (show ¬ nI ps.length ≤ oI (some k) from nI_ge hk (by omega)), at_ok, Option.bind_some]
                dsimp only
                rw [nI_1, move_ok, Option.bind_some]
                dsimp only [lt]
                rw [nI_1]
                rfl
            rw [loopN_go bd]
            exact ih (i + 1) (s + 1) none ps M G (by omega) (by omega) (by omega) (fun k hk => by cases hk) hps h (by omega)
          · rw [if_neg cC]
            have s141 : Gra_parseParts_B4 F (oI o, nI i, mv M p) = Gra_parseParts_J141 F (oI o) (nI i) (cI w s) (bI o.isSome) (mv M s) := by
              have s129 : Gra_parseParts_J129 F (oI o) (nI i) (cI w s) (mv M s) = Gra_parseParts_J141 F (oI o) (nI i) (cI w s) (bI o.isSome) (mv M s) := by
                unfold Gra_parseParts_J129
                cases o with
                | none => rw [if_pos (show oI none = -1 from rfl)]; rfl
                | some k => rw [if_neg (fun q => by have := on.mp q; cases this)]; rfl
              rw [s91]
              unfold Gra_parseParts_J91
              by_cases z1 : cI w s = 93
              · rw [if_pos z1]
                by_cases z2 : oI o = -1
                · rw [if_pos z2, s129]
                · rw [if_neg z2]
                  cases o with
                  | none => exact absurd rfl z2
                  | some k =>
                    by_cases z3 : k < ps.length
                    · exact absurd ⟨e93.mp z1, (fun q => by cases q), z3⟩ cC
                    · rw [if_pos (show nI ps.length ≤ oI (some k) from nI_le (by omega) (by have := ho k rfl; omega)), s129]
              · rw [if_neg z1, s129]
            have k := prt_ok (F := F) (p := s) (br := o.isSome) hB h s2 hc hps hF
            dsimp only at k
            cases e : prtS w s o.isSome ps.length with
            | inl t =>
              rw [e] at k
              obtain ⟨M1, k1, k2⟩ := k
              refine ⟨M1, loopN_ex (q := (2, 0, 0, M1)) ?_ (fun q => by cases q), k2⟩
              rw [s141]
              unfold Gra_parseParts_J141
              rw [k1, Option.bind_some]
              rfl
            | inr z =>
              obtain ⟨p', q⟩ := z
              rw [e] at k
              obtain ⟨M1, k1, k2⟩ := k
              have pl := prtS_le s2 e
              have bd : Gra_parseParts_B4 F (oI o, nI i, mv M p) = some (0, oI o, nI (i + 1), mv M1 p') := by
                rw [s141]
                unfold Gra_parseParts_J141
                rw [k1, Option.bind_some]
                dsimp only [lt]
                rw [if_neg (by decide), nI_1]
              rw [loopN_go bd]
              exact ih (i + 1) p' o (ps ++ [q]) M1 G (by omega) (by omega) (by omega) ho (by rw [List.length_append]; exact pl.2.2.2.2) k2 (by omega)
theorem parts_ok {F p : Nat} {w : List Nat} {C0 : List Cls} {a b u : Nat} {M0 M : zM} (hB : okB w) (h : BX w (C0 ++ [(a, b, u, [])]) M0 M) (hp : p ≤ w.length) (hc : C0.length < 12) (hF : 3000 < F) : match parS w 241 p none [] with
    | .inl t => ∃ M1, Gra_parseParts F (mv M p) = some (0, M1) ∧ FXr M0 t M1
    | .inr z => ∃ M1, Gra_parseParts F (mv M p) = some (1, mv M1 z.1) ∧ BX w (C0 ++ [(a, b, u, z.2)]) M0 M1 ∧ z.1 ≤ w.length := by
  have k := parL (F := F) (a := a) (b := b) (u := u) (M0 := M0) hB hc hF 241 0 p none [] M F rfl (Nat.zero_le _) hp (fun k hk => by cases hk) (by decide) h (by omega)
  unfold Gra_parseParts
  cases e : parS w 241 p none [] with
  | inl t =>
    rw [e] at k
    obtain ⟨M1, k1, k2⟩ := k
    have k1 : loopN (Gra_parseParts_B4 F) F (-1, 0, mv M p) = _ := k1
    rw [k1, Option.bind_some]
    refine ⟨M1, ?_, k2⟩
    dsimp only
    rw [if_neg (by decide), if_pos rfl, n0]
  | inr z =>
    rw [e] at k
    obtain ⟨M1, s, k1, k2, k3, k4, k5, k6, k7⟩ := k
    have k1 : loopN (Gra_parseParts_B4 F) F (-1, 0, mv M p) = _ := k1
    rw [k1, Option.bind_some]
    have g := sg_ok (F := F) (c := 59) (p := s) hB k2 (by omega) (by decide) hF
    unfold sgS at g
    rw [k4, if_pos k5] at g
    have g : Gra_parseSign F 59 (mv M1 s) = some (1, mv M1 (s + 1)) := g
    refine ⟨M1, ?_, k2, by omega⟩
    dsimp only
    rw [if_pos rfl, g, Option.bind_some, k6]
    dsimp only
    rw [if_pos b1]

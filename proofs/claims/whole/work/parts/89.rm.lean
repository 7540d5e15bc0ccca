/-! read -/
def rdS (t : Nat) (S : Sp) : Int32 × Sp := match txS S.1 13 0 [] with
  | .inl f => (-10 - nI f.1, ([], nI f.2, S.2.2.1, S.2.2.2))
  | .inr C => (nI C.length, ([], -1, (fun t' => if t' = t then (C.length, NM C) else S.2.2.1 t'), S.2.2.2))
theorem txS_ok {w : List Nat} : ∀ f p C C', p ≤ w.length → okN C → (∀ c ∈ C, okCl c) → C.length + f = 13 → txS w f p C = .inr C' → C'.length ≤ 12 ∧ ∀ c ∈ C', okCl c := by
  intro f
  induction f with
  | zero => intro p C C' _ _ _ _ h; cases h
  | succ f ih =>
    intro p C C' hp hN hC hf h
    have s2 : skB w p ≤ w.length := (wh_sp qB hp).2.1
    rw [txS_s] at h
    by_cases c : skB w p = w.length
    · rw [if_pos c] at h
      injection h with h
      rw [← h]; exact ⟨hN.1, hC⟩
    · rw [if_neg c] at h
      cases e : clS w C (skB w p) with
      | inl t => rw [e] at h; cases h
      | inr z =>
        obtain ⟨p', cl⟩ := z
        have oc := clS_ok s2 e
        have c12 : C.length < 12 := by
          rcases Nat.lt_or_ge C.length 12 with y | y
          · exact y
          · exfalso
            have e12 : C.length = 12 := by have := hN.1; omega
            unfold clS at e
            by_cases d1 : isW [119, 111, 114, 100] w (skB w p) = true
            · rw [if_pos d1, if_pos e12] at e; cases e
            · rw [if_neg d1] at e
              by_cases d2 : isW [102, 111, 114] w (skB w p) = true
              · rw [if_pos d2, if_pos e12] at e; cases e
              · rw [if_neg d2] at e; cases e
        have pl : p' ≤ w.length := by
          have e0 := e
          unfold clS at e0
          by_cases d1 : isW [119, 111, 114, 100] w (skB w p) = true
          · rw [if_pos d1, if_neg (by omega), wrdA_s] at e0
            unfold wrdA at e0
            have l3 : enL w (skB w p) = skB w p + 4 := isW_len s2 d1
            have le : enL w (skB w p) ≤ w.length := (wh_sp qL s2).2.1
            cases d3 : numS w 0 999 (skB w p + 4) with
            | inl f => rw [d3] at e0; cases e0
            | inr z1 =>
              obtain ⟨p1, n⟩ := z1
              have b1 := numS_le (by omega) d3
              rw [d3] at e0
              dsimp only at e0
              by_cases d4 : hasW C n = true
              · rw [if_pos d4] at e0; cases e0
              · rw [if_neg d4] at e0
                have s5 : skB w p1 ≤ w.length := (wh_sp qB b1.2.1).2.1
                cases d5 : letS w (skB w p1) with
                | inl f => rw [d5] at e0; cases e0
                | inr z2 =>
                  obtain ⟨p2, l⟩ := z2
                  have b2 := letS_le s5 d5
                  rw [d5] at e0
                  dsimp only at e0
                  cases d6 : sgS w 59 p2 with
                  | inl f => rw [d6] at e0; cases e0
                  | inr p3 =>
                    have b3 := sgS_le (by decide) b2.2.1 d6
                    rw [d6] at e0
                    injection e0 with e0
                    injection e0 with e0 _
                    omega
          · rw [if_neg d1] at e0
            by_cases d2 : isW [102, 111, 114] w (skB w p) = true
            · have l3 : enL w (skB w p) = skB w p + 3 := isW_len s2 d2
              have le : enL w (skB w p) ≤ w.length := (wh_sp qL s2).2.1
              rw [if_pos d2, if_neg (by omega)] at e0
              unfold frmS headS at e0
              cases d3 : numS w 0 999 (skB w p + 3) with
              | inl f => rw [d3] at e0; cases e0
              | inr z1 =>
                obtain ⟨p1, a⟩ := z1
                have b1 := numS_le (by omega) d3
                rw [d3] at e0
                dsimp only at e0
                cases d4 : kwS w [116, 111] p1 with
                | inl f => rw [d4] at e0; cases e0
                | inr p2 =>
                  have b2 := kwS_le b1.2.1 d4
                  rw [d4] at e0
                  dsimp only at e0
                  cases d5 : numS w a 999 p2 with
                  | inl f => rw [d5] at e0; cases e0
                  | inr z3 =>
                    obtain ⟨p3, b⟩ := z3
                    have b3 := numS_le b2.2 d5
                    rw [d5] at e0
                    dsimp only at e0
                    cases d6 : kwS w [98, 121] p3 with
                    | inl f => rw [d6] at e0; cases e0
                    | inr p4 =>
                      have b4 := kwS_le b3.2.1 d6
                      rw [d6] at e0
                      dsimp only at e0
                      cases d7 : numS w 2 500 p4 with
                      | inl f => rw [d7] at e0; cases e0
                      | inr z5 =>
                        obtain ⟨p5, u⟩ := z5
                        have b5 := numS_le b4.2 d7
                        rw [d7] at e0
                        dsimp only at e0
                        cases d8 : sgS w 58 p5 with
                        | inl f => rw [d8] at e0; cases e0
                        | inr p6 =>
                          have b6 := sgS_le (by decide) b5.2.1 d8
                          rw [d8] at e0
                          dsimp only at e0
                          cases d9 : parS w 241 p6 none [] with
                          | inl f => rw [d9] at e0; cases e0
                          | inr z7 =>
                            obtain ⟨p7, ps⟩ := z7
                            have b7 := parS_ok 241 p6 none [] p7 ps b6.2 (Nat.zero_le 8) (fun q hq => by cases hq) d9
                            rw [d9] at e0
                            injection e0 with e0
                            injection e0 with e0 _
                            omega
            · rw [if_neg d2] at e0; cases e0
        rw [e] at h
        refine ih p' (C ++ [cl]) C' pl (okN_add hN c12 oc.1) (fun x hx => ?_) (by rw [List.length_append]; show C.length + 1 + f = 13; omega) h
        rcases List.mem_append.mp hx with y | y
        · exact hC x y
        · rw [List.mem_singleton.mp y]; exact oc.1
theorem named_c {T T' : Tn} (h : ∀ n, n < 1000 → T.2 n = T'.2 n) : named T = named T' := by
  unfold named
  exact List.filter_congr (fun n hn => by rw [h n (List.mem_range.mp hn)])
theorem ok_read {F : Nat} (hF : 3000 < F) (x : Int32) : Good (NW_read F x) (Mod_read F x) := by
  cases h1 : inb x 3 with
  | false => exact mkGood0 (fun _ => -1001) (fun S M h => by simp [NW_read, NW_isTongue_ok, h1, bI]) (fun S M h0 h => by simp [Mod_read, Mod_isTongue_ok, h1, bI])
  | true =>
    obtain ⟨t, ht, rfl⟩ := inb_of h1 (by decide)
    refine mkGood (rdS t) (fun S M h => ?_) (fun S M h0 h => ?_)
    · obtain ⟨r1, r2, r3, r4, r5, r6, r7, r8⟩ := h
      have hB : okB S.1 := ⟨r1, r2⟩
      have hT : TX S.1 M := ⟨r3, r4⟩
      have k := parse_ok (F := F) hB hT hF
      have tok := fun C' => txS_ok (w := S.1) 13 0 [] C' (Nat.zero_le _) ⟨by decide, fun c hc => by cases hc⟩ (fun c hc => by cases hc) rfl
      have st : NW_read F (nI t) M = (Gra_parse F M).bind fun (r_5, M_6) => if r_5 = 0 then NW_read_J36 F r_5 M_6 else (Nam_nameAll F (14 + 10 * t) M_6).bind fun (_r_20, M_21) => NW_read_J36 F r_5 M_21 := by
        unfold NW_read
        rw [NW_isTongue_ok, h1, Option.bind_some]
        dsimp only
        rw [if_neg (by decide)]
        simp only [tgA_n t ht, ↓reduceIte]
      rw [st]
      unfold rdS
      cases e : txS S.1 13 0 [] with
      | inl f =>
        rw [e] at k
        obtain ⟨M1, k1, k2, k3, k4⟩ := k
        rw [k1, Option.bind_some]
        dsimp only
        rw [if_pos rfl]
        unfold NW_read_J36 Tex_empty Gra_faultNumber
        dsimp only [lt]
        rw [Option.bind_some]
        dsimp only
        rw [if_pos rfl, Option.bind_some]
        have fo : ∀ b, b ≠ 1 → b ≠ 12 → (b < 3 ∨ 11 < b) → (zI (zI M1 1 1 0) 1 2 0).1 b = M.1 b := fun b b1 b2 b3 => (zI_other b1).trans ((zI_other b1).trans (k4.1 b b1 b2 b3))
        have f12 : ∀ j, (zI (zI M1 1 1 0) 1 2 0).1 12 j = M1.1 12 j := fun j => by rw [zI_other (by decide), zI_other (by decide)]
        have fl : ∀ b, b ≠ 10 → (zI (zI M1 1 1 0) 1 2 0).2 b = M.2 b := fun b hb => k4.2 b hb
        refine ⟨zI (zI M1 1 1 0) 1 2 0, ?_, ⟨Nat.zero_le _, fun q hq => (by cases hq), ?_, fun i hi => absurd hi (Nat.not_lt_zero i), ?_, fun t' ht' => ?_, ?_, ?_⟩, fun b hb => ⟨fo b (by omega) (by omega) (by omega), fl b (by omega)⟩⟩
        · dsimp only
          rw [f12 2, k2]
        · rw [zI_ne (Or.inr (by decide)), zI_in]; rfl
        · rw [f12 3]; exact k3
        · exact (r6 t' ht').same (fun b b1 b2 => ⟨fo b (by omega) (by omega) (by omega), fl b (by omega)⟩)
        · exact r7.same (fo 53 (by decide) (by decide) (by decide)) (fl 54 (by decide))
        · exact r8.same (fo 55 (by decide) (by decide) (by decide)) (fl 56 (by decide))
      | inr C =>
        obtain ⟨c12, cok⟩ := tok C e
        rw [e] at k
        obtain ⟨M1, k1, k2, k3, k4, k5⟩ := k
        obtain ⟨M2, N, n1', nb, eqN⟩ := nameAll_ok (F := F) (t := t) k3 ht c12 cok hF
        obtain ⟨b1, b2, b3, b4, b5, b6, b7, b8⟩ := nb
        rw [k1, Option.bind_some]
        dsimp only
        rw [if_neg (by decide), n1', Option.bind_some]
        dsimp only
        unfold NW_read_J36 Tex_empty Cla_count
        dsimp only [lt]
        rw [Option.bind_some]
        dsimp only
        rw [if_neg (by decide), Option.bind_some]
        have fo : ∀ b, b ≠ 1 → b ≠ 12 → (b < 3 ∨ 11 < b) → (b < 14 + 10 * t ∨ 14 + 10 * t + 8 < b) → (b < 44 ∨ 49 < b) → (zI (zI M2 1 1 0) 1 2 0).1 b = M.1 b ∧ (zI (zI M2 1 1 0) 1 2 0).2 b = M.2 b := fun b q1 q2 q3 q4 q5 => ⟨(zI_other q1).trans ((zI_other q1).trans ((b8 b q4 q5).1.trans (k4.1 b q1 q2 q3))), (b8 b q4 q5).2.trans (k4.2 b (by omega))⟩
        have f1 : ∀ b, b ≠ 1 → (zI (zI M2 1 1 0) 1 2 0).1 b = M2.1 b := fun b q1 => (zI_other q1).trans (zI_other q1)
        refine ⟨zI (zI M2 1 1 0) 1 2 0, ?_, ⟨Nat.zero_le _, fun q hq => (by cases hq), ?_, fun i hi => absurd hi (Nat.not_lt_zero i), ?_, fun t' ht' => ?_, ?_, ?_⟩, fun b hb => fo b (by omega) (by omega) (by omega) (by omega) (by omega)⟩
        · dsimp only
          rw [f1 3 (by decide), b1.1]
        · rw [zI_ne (Or.inr (by decide)), zI_in]; rfl
        · rw [f1 12 (by decide), (b8 12 (by omega) (by omega)).1]; exact k5
        · dsimp only
          by_cases c : t' = t
          · rw [if_pos c, c]
            have ea := f1 (14 + 10 * t) (by omega)
            refine ⟨c12, by rw [ea]; exact b4, ?_, fun n hn => ?_, Or.inl (by rw [ea]; exact b6), Or.inl (by rw [ea]; exact b7)⟩
            · rw [ea, b5, named_c (T := (0, N)) (T' := (C.length, NM C)) (fun n hn => eqN n hn)]
            · have := b2 n hn
              rw [eqN n hn] at this
              exact this.same (fun b q1 q2 => ⟨f1 b (by omega), rfl⟩)
          · rw [if_neg c]
            exact (r6 t' ht').same (fun b q1 q2 => fo b (by omega) (by omega) (by omega) (by omega) (by omega))
        · exact r7.same (fo 53 (by decide) (by decide) (by decide) (by omega) (by decide)).1 (fo 54 (by decide) (by decide) (by decide) (by omega) (by decide)).2
        · exact r8.same (fo 55 (by decide) (by decide) (by decide) (by omega) (by decide)).1 (fo 56 (by decide) (by decide) (by decide) (by omega) (by decide)).2
    · obtain ⟨r1, r2, r3, r4, r5, r6, r7, r8⟩ := h
      have hB : okB S.1 := ⟨h0.1, h0.2.1⟩
      have st : Mod_read F (nI t) M = (loopN (Mod_read_B28 F (nI t)) F (0, zI (zI (zI M 63 17 (-1)) 63 18 0) 63 19 0)).bind fun (k_21, x2_19, M_20) => if k_21 = 1 then Mod_read_J47 F (nI t) x2_19 M_20 else none := by
        unfold Mod_read
        dsimp only [lt]
        rw [Mod_isTongue_ok, h1, Option.bind_some]
        dsimp only
        rw [if_neg (by decide)]
      have fb : fM M (zI (zI (zI M 63 17 (-1)) 63 18 0) 63 19 0) := ⟨fun b q1 q2 => (zI_other q1).trans ((zI_other q1).trans (zI_other q1)), rfl, fun k q1 q2 q3 q4 q5 q6 => (zI_ne (Or.inr q3)).trans ((zI_ne (Or.inr q2)).trans (zI_ne (Or.inr q1)))⟩
      have v17 : (zI (zI (zI M 63 17 (-1)) 63 18 0) 63 19 0).1 63 17 = -1 := by rw [zI_ne (Or.inr (by decide)), zI_ne (Or.inr (by decide)), zI_in]
      have v18 : (zI (zI (zI M 63 17 (-1)) 63 18 0) 63 19 0).1 63 18 = nI 0 := by rw [zI_ne (Or.inr (by decide)), zI_in]; rfl
      have v19 : (zI (zI (zI M 63 17 (-1)) 63 18 0) 63 19 0).1 63 19 = 0 := zI_in
      have v87 : (zI (zI (zI M 63 17 (-1)) 63 18 0) 63 19 0).1 87 = M.1 87 := by rw [zI_other (by decide), zI_other (by decide), zI_other (by decide)]
      rw [st]
      generalize zI (zI (zI M 63 17 (-1)) 63 18 0) 63 19 0 = Mb at *
      have bm : BM S.1 [] M Mb := ⟨⟨(fb.2.2 16 (by decide) (by decide) (by decide) (by decide) (by decide) (by decide)).trans r1, fun i hi => by rw [fb.1 79 (by decide) (by decide)]; exact r2 i hi⟩, fb, r8.same v87, v19, v17, fun i hi => absurd hi (Nat.not_lt_zero i)⟩
      have k := rdL (F := F) (x1 := nI t) hB hF 13 0 [] Mb F rfl (Nat.zero_le _) ⟨by decide, fun c hc => by cases hc⟩ bm (by omega)
      rw [mr_self v18] at k
      unfold rdS
      cases e : txS S.1 13 0 [] with
      | inl f =>
        rw [e] at k
        obtain ⟨M1, k1, k2, k3, k4, k5⟩ := k
        rw [k1, Option.bind_some]
        dsimp only
        rw [if_pos rfl]
        unfold Mod_read_J47
        dsimp only [lt]
        rw [if_neg (npos k2)]
        have fo : ∀ b, b ≠ 63 → (b < 80 ∨ 88 < b) → (zI M1 63 16 0).1 b = M.1 b := fun b q1 q2 => (zI_other q1).trans (k4.1 b q1 q2)
        have f63 : ∀ j, j ≠ 16 → j ≠ 17 → j ≠ 18 → j ≠ 19 → j ≠ 29 → j ≠ 30 → j ≠ 31 → (zI M1 63 16 0).1 63 j = M.1 63 j := fun j q0 q1 q2 q3 q4 q5 q6 => (zI_ne (Or.inr q0)).trans (k4.2.2 j q1 q2 q3 q4 q5 q6)
        refine ⟨_, rfl, ⟨zI_in, fun i hi => absurd hi (Nat.not_lt_zero i), (zI_ne (Or.inr (by decide))).trans k3, fun t' ht' => ⟨by rw [fo 64 (by decide) (by decide)]; exact (r4 t' ht').1, fun n hn => ((r4 t' ht').2 n hn).same (fun b q1 q2 => ⟨fo b (by omega) (by omega), by show M1.2 b = M.2 b; rw [k4.2.1]⟩)⟩, by rw [f63 42 (by decide) (by decide) (by decide) (by decide) (by decide) (by decide) (by decide)]; exact r5, by rw [fo 95 (by decide) (by decide)]; exact r6, ?_, k5.same (zI_other (by decide))⟩, fun b hb => ⟨fo b (by omega) (by omega), by show M1.2 b = M.2 b; rw [k4.2.1]⟩⟩
        rw [f63 35 (by decide) (by decide) (by decide) (by decide) (by decide) (by decide) (by decide), f63 36 (by decide) (by decide) (by decide) (by decide) (by decide) (by decide) (by decide), f63 37 (by decide) (by decide) (by decide) (by decide) (by decide) (by decide) (by decide), fo 91 (by decide) (by decide)]
        exact r7
      | inr C =>
        rw [e] at k
        obtain ⟨M1, k1, ⟨k2, k3, k4, k5, k6, k7⟩, k8, k9⟩ := k
        have cok : ∀ c ∈ C, okCl c := fun c hc => by
          rcases k9 c hc with y | y
          · cases y
          · exact y
        have bm2 : BM [] C (zI M1 63 16 0) (zI M1 63 16 0) := ⟨⟨zI_in, fun i hi => absurd hi (Nat.not_lt_zero i)⟩, ⟨fun _ _ _ => rfl, rfl, fun _ _ _ _ _ _ _ => rfl⟩, k4.same (zI_other (by decide)), (zI_ne (Or.inr (by decide))).trans k5, (zI_ne (Or.inr (by decide))).trans k6, fun i hi => k7 i hi⟩
        obtain ⟨M2, p1, p2, p3, p4, p5⟩ := keep_ok (F := F) (t := t) bm2 ht k8.1 hF
        obtain ⟨M3, q1, q2, q3, q4, q5, q6, q7, q8⟩ := names_ok (F := F) (t := t) p2 ht k8.1 cok hF
        rw [k1, Option.bind_some]
        dsimp only
        rw [if_pos rfl]
        unfold Mod_read_J47
        dsimp only [lt]
        rw [if_pos (show (0 : Int32) ≤ 0 by decide), p1, Option.bind_some]
        dsimp only
        rw [q1, Option.bind_some]
        have g63 : ∀ j, j ≠ 33 → j ≠ 35 → M3.1 63 j = (zI M1 63 16 0).1 63 j := fun j a1 a2 => (q5 j a1 a2).trans (by rw [p3 63 (by decide)])
        have f63 : ∀ j, j ≠ 33 → j ≠ 35 → j ≠ 16 → j ≠ 17 → j ≠ 18 → j ≠ 19 → j ≠ 29 → j ≠ 30 → j ≠ 31 → M3.1 63 j = M.1 63 j := fun j a1 a2 a3 a4 a5 a6 a7 a8 a9 => (g63 j a1 a2).trans ((zI_ne (Or.inr a3)).trans (k3.2.2 j a4 a5 a6 a7 a8 a9))
        have m2 : ∀ b, (b < 63 ∨ 88 < b ∨ (74 ≤ b ∧ b < 80)) → M2.1 b = M.1 b := fun b hb => (p3 b (by omega)).trans ((zI_other (by omega)).trans (k3.1 b (by omega) (by omega)))
        have fo : ∀ b, (b < 63 ∨ 90 < b ∨ b = 79) → M3.1 b = M.1 b := fun b hb => (q4 b (by omega) (by omega) (by omega) (by omega) (by omega) (by omega) (by omega)).trans (m2 b (by omega))
        have l2 : M2.2 = M.2 := p4.trans k3.2.1
        refine ⟨M3, by rw [g63 19 (by decide) (by decide), zI_ne (Or.inr (by decide)), k5], ⟨?_, fun i hi => absurd hi (Nat.not_lt_zero i), ?_, fun t' ht' => ?_, ?_, ?_, Or.inl q3, ?_⟩, fun b hb => ⟨fo b (by omega), (q7 b (by omega)).trans (by rw [l2])⟩⟩
        · rw [g63 16 (by decide) (by decide), zI_in]; rfl
        · rw [g63 17 (by decide) (by decide), zI_ne (Or.inr (by decide))]; exact k6
        · dsimp only
          by_cases c : t' = t
          · rw [if_pos c, c]
            exact ⟨by rw [q4 64 (by decide) (by decide) (by decide) (by decide) (by decide) (by decide) (by decide)]; exact p2.1, q2⟩
          · rw [if_neg c]
            refine ⟨?_, fun n hn => ?_⟩
            · rw [q4 64 (by decide) (by decide) (by decide) (by decide) (by decide) (by decide) (by decide), p5 t' c, congrFun (zI_other (show (64 : Nat) ≠ 63 by decide)) t', k3.1 64 (by decide) (by decide)]
              exact (r4 t' ht').1
            · have mn := (r4 t' ht').2 n hn
              have jo : 1000 * t' + n < 1000 * t ∨ 1000 * t + 1000 ≤ 1000 * t' + n := by omega
              obtain ⟨v1, v2, v3, v4⟩ := q6 (1000 * t' + n) jo
              rw [m2 74 (by decide)] at v1
              rw [m2 76 (by decide)] at v2
              rw [m2 77 (by decide)] at v3
              rw [m2 78 (by decide)] at v4
              cases en : (S.2.2.1 t').2 n with
              | none =>
                rw [en] at mn
                exact ⟨v1.trans mn.1, v2.trans mn.2.1, v3.trans mn.2.2⟩
              | some y =>
                obtain ⟨w, b, d⟩ := y
                have lw : w.length ≤ 60 := (okT h0 ht' n hn w b d en).1
                rw [en] at mn
                obtain ⟨m1, m2', m3, m4, m5⟩ := mn
                refine ⟨v1.trans m1, v2.trans m2', v3.trans m3, v4.trans m4, fun i hi => ?_⟩
                rw [← m5 i hi]
                unfold mB
                rw [q8 (8 * (1000 * t' + n) + i / 8) (by omega), l2]
        · rw [f63 42 (by decide) (by decide) (by decide) (by decide) (by decide) (by decide) (by decide) (by decide) (by decide)]; exact r5
        · rw [fo 95 (by decide)]; exact r6
        · refine k4.same ?_
          rw [q4 87 (by decide) (by decide) (by decide) (by decide) (by decide) (by decide) (by decide), p3 87 (by decide), zI_other (by decide)]

/-! the reference reads: clauses -/
def jM (n : Nat) (M0 M : zM) : Prop := (∀ b, b ≠ 63 → (b < 80 ∨ 88 < b) → M.1 b = M0.1 b) ∧ M.2 = M0.2 ∧ (∀ k, k ≠ 18 → k ≠ 29 → k ≠ 30 → k ≠ 31 → M.1 63 k = M0.1 63 k) ∧ (∀ b k, 80 ≤ b → b ≤ 84 → k ≠ n → M.1 b k = M0.1 b k) ∧ (∀ k, k < 8 * n → M.1 85 k = M0.1 85 k ∧ M.1 86 k = M0.1 86 k ∧ M.1 87 k = M0.1 87 k) ∧ ∀ k, k < 96 * n → M.1 88 k = M0.1 88 k
theorem jM.rf {n : Nat} {M : zM} : jM n M M := ⟨fun _ _ _ => rfl, rfl, fun _ _ _ _ _ => rfl, fun _ _ _ _ _ => rfl, fun _ _ => ⟨rfl, rfl, rfl⟩, fun _ _ => rfl⟩
theorem jM.tr {n : Nat} {M M1 M2 : zM} (h : jM n M M1) (h2 : jM n M1 M2) : jM n M M2 := ⟨fun b b1 b2 => (h2.1 b b1 b2).trans (h.1 b b1 b2), h2.2.1.trans h.2.1, fun k k1 k2 k3 k4 => (h2.2.2.1 k k1 k2 k3 k4).trans (h.2.2.1 k k1 k2 k3 k4), fun b k b1 b2 hk => (h2.2.2.2.1 b k b1 b2 hk).trans (h.2.2.2.1 b k b1 b2 hk), fun k hk => ⟨(h2.2.2.2.2.1 k hk).1.trans (h.2.2.2.2.1 k hk).1, (h2.2.2.2.2.1 k hk).2.1.trans (h.2.2.2.2.1 k hk).2.1, (h2.2.2.2.2.1 k hk).2.2.trans (h.2.2.2.2.1 k hk).2.2⟩, fun k hk => (h2.2.2.2.2.2 k hk).trans (h.2.2.2.2.2 k hk)⟩
theorem hM.j {n : Nat} {M M1 : zM} (h : hM n M M1) : jM n M M1 := ⟨fun b b1 b2 => h.1 b b1 (by omega), h.2.1, h.2.2.1, fun b k b1 b2 hk => by
  by_cases c : b = 84
  · rw [c]; exact h.2.2.2.1 k hk
  · rw [h.1 b (by omega) (by omega)], h.2.2.2.2.1, h.2.2.2.2.2⟩
theorem jM.z {n b : Nat} {v : Int32} {M M1 : zM} (h : jM n M M1) (hb : 80 ≤ b ∧ b ≤ 84) : jM n M (zI M1 b n v) := h.tr ⟨fun b' b1 b2 => zI_other (by omega), rfl, fun k _ _ _ _ => congrFun (zI_other (by omega)) k, fun b' k b1 b2 hk => zI_ne (Or.inr hk), fun k hk => ⟨congrFun (zI_other (by omega)) k, congrFun (zI_other (by omega)) k, congrFun (zI_other (by omega)) k⟩, fun k hk => congrFun (zI_other (by omega)) k⟩
theorem jM.f {n : Nat} {M0 M M1 : zM} (h : jM n M M1) (f : fM M0 M) : fM M0 M1 := ⟨fun b b1 b2 => (h.1 b b1 b2).trans (f.1 b b1 b2), h.2.1.trans f.2.1, fun k k1 k2 k3 k4 k5 k6 => (h.2.2.1 k k2 k4 k5 k6).trans (f.2.2 k k1 k2 k3 k4 k5 k6)⟩
theorem jM.t {n : Nat} {w : List Nat} {M M1 : zM} (h : jM n M M1) (t : MT w M) : MT w M1 := ⟨(h.2.2.1 16 (by decide) (by decide) (by decide) (by decide)).trans t.1, fun i hi => by rw [h.1 79 (by decide) (by decide)]; exact t.2 i hi⟩
theorem FMr.r {M0 M : zM} {f : Flt} {b k : Nat} {v : Int32} (h : FMr M0 f M) (hb : 80 ≤ b ∧ b ≤ 84) : FMr M0 f (zI M b k v) := ⟨h.1, (congrFun (zI_other (by omega)) 17).trans h.2.1, ⟨fun b' b1 b2 => (zI_other (by omega)).trans (h.2.2.1.1 b' b1 b2), h.2.2.1.2.1, fun j k1 k2 k3 k4 k5 k6 => (congrFun (zI_other (by omega)) j).trans (h.2.2.1.2.2 j k1 k2 k3 k4 k5 k6)⟩, h.2.2.2.same (zI_other (by omega))⟩
theorem npos {t : Nat} (h : 0 < t ∧ t < 7) : ¬ nI t ≤ 0 := nI_ge (a := 0) h.1 (by omega)
theorem needs_ok {F a b p : Nat} {w : List Nat} {M0 M : zM} (hB : okB w) (hT : MT w M) (h : fM M0 M) (hz : Z87 M) (hp : p ≤ w.length) (ha : a < 256) (hb : b < 256) (hF : 3000 < F) : match kwS w [a, b] p with
    | .inl f => ∃ M1, Mod_needs F (nI a) (nI b) (mr M p) = some (nI f.1, M1) ∧ FMr M0 f M1
    | .inr p' => ∃ M1, Mod_needs F (nI a) (nI b) (mr M p) = some (0, mr M1 p') ∧ gM M M1 := by
  have s2 : skB w p ≤ w.length := (wh_sp qB hp).2.1
  have k := coming_ok (F := F) (a := a) (b := b) (c := 0) (d := 0) hB hT hp ⟨ha, hb, by decide, by decide⟩ (fun _ => rfl) hF
  have k : Mod_isComing F (nI a) (nI b) 0 0 (mr M p) = some (bI (isW [a, b] w (skB w p)), mr (zI M 63 31 (nI (enL w (skB w p)))) (skB w p)) := k
  have g1 : gM M (zI M 63 31 (nI (enL w (skB w p)))) := ⟨fun b' hb' => zI_other hb', rfl, fun j _ _ _ k4 => zI_ne (Or.inr k4)⟩
  have f1 := g1.h (n := 0) |>.f h
  unfold Mod_needs kwS
  rw [k, Option.bind_some]
  dsimp only [lt]
  cases c : isW [a, b] w (skB w p) with
  | false =>
    rw [if_pos (show bI false = 0 from rfl), if_neg (show ¬ false = true by decide), mr_p]
    obtain ⟨M1, k1, k2⟩ := fails_ok (F := F) (f := 1) (pl := skB w p) (f1.mr (p := skB w p)) (hz.same ((mr_o (by decide)).trans (g1.1 87 (by decide)))) (by decide)
    have k1 : Mod_fails F 1 (nI (skB w p)) (mr (zI M 63 31 (nI (enL w (skB w p)))) (skB w p)) = some (1, M1) := k1
    rw [k1, Option.bind_some]
    exact ⟨M1, rfl, k2⟩
  | true =>
    rw [if_neg (show ¬ bI true = 0 by decide), if_pos (show true = true from rfl), mr_1 (by decide), zI_in, mr_m]
    refine ⟨zI M 63 31 (nI (enL w (skB w p))), ?_, g1⟩
    rw [isW_len s2 c]
theorem bad101 {F n : Nat} {f : Flt} {M0 M : zM} (hn : n < 12) (h : FMr M0 f M) : ∃ M1, Mod_takeForm_J101 F (nI n) (nI f.1) M = some (nI f.1, M1) ∧ FMr M0 f M1 := by
  unfold Mod_takeForm_J101
  dsimp only [lt]
  rw [if_pos (inb_nI hn (by decide)), nI_clamp (by omega), if_neg (npos h.1)]
  exact ⟨_, rfl, h.r (by decide)⟩
theorem bad84 {F n : Nat} {f : Flt} {M0 M : zM} (hn : n < 12) (h : FMr M0 f M) : ∃ M1, Mod_takeForm_J84 F (nI n) (nI f.1) M = some (nI f.1, M1) ∧ FMr M0 f M1 := by
  unfold Mod_takeForm_J84
  rw [if_neg (npos h.1)]
  exact bad101 hn h
theorem bad57 {F n : Nat} {f : Flt} {M0 M : zM} (hn : n < 12) (h : FMr M0 f M) : ∃ M1, Mod_takeForm_J57 F (nI n) (nI f.1) M = some (nI f.1, M1) ∧ FMr M0 f M1 := by
  unfold Mod_takeForm_J57
  dsimp only [lt]
  rw [if_pos (inb_nI hn (by decide)), nI_clamp (by omega), if_neg (npos h.1)]
  exact bad84 hn (h.r (by decide))
theorem bad35 {F n : Nat} {f : Flt} {M0 M : zM} (hn : n < 12) (h : FMr M0 f M) : ∃ M1, Mod_takeForm_J35 F (nI n) (nI f.1) M = some (nI f.1, M1) ∧ FMr M0 f M1 := by
  unfold Mod_takeForm_J35
  rw [if_neg (npos h.1)]
  exact bad57 hn h
theorem form_ok {F n p : Nat} {w : List Nat} {M0 M : zM} (hB : okB w) (hT : MT w M) (h : fM M0 M) (hz : Z87 M) (hc : CU n [] M) (hp : p ≤ w.length) (hn : n < 12) (hF : 3000 < F) : match frmS w p with
    | .inl f => ∃ M1, Mod_takeForm F (nI n) (mr M p) = some (nI f.1, M1) ∧ FMr M0 f M1
    | .inr z => ∃ M1 s, Mod_takeForm F (nI n) (mr M p) = some (0, mr M1 s) ∧ jM n M M1 ∧ Z87 M1 ∧ CU n z.2.2.2.2 M1 ∧ M1.1 80 = M.1 80 ∧ M1.1 81 n = nI z.2.1 ∧ M1.1 82 n = nI z.2.2.1 ∧ M1.1 83 n = nI z.2.2.2.1 ∧ s < w.length ∧ skB w s = s ∧ gB w s = 59 ∧ z.1 = s + 1 := by
  have hi := inb_nI (n := 12) hn (by decide)
  have hcl : (nI n).toNatClampNeg = n := nI_clamp (by omega)
  unfold Mod_takeForm frmS headS
  have k1 := tnum_ok (F := F) (lo := 0) (hi := 999) (p := p) hB hT h hz hp (by decide) (by decide) hF
  cases c1 : numS w 0 999 p with
  | inl f =>
    rw [c1] at k1
    obtain ⟨M1, q1, q2⟩ := k1
    have q1 : Mod_takeNumber F 0 999 (mr M p) = some (nI f.1, M1) := q1
    rw [q1, Option.bind_some]
    dsimp only [lt]
    rw [if_pos hi, hcl, if_neg (npos q2.1)]
    exact bad35 hn (q2.r (by decide))
  | inr z1 =>
    obtain ⟨p1, a⟩ := z1
    have b1 := numS_le hp c1
    rw [c1] at k1
    obtain ⟨M1, q1, q2, q3, q4⟩ := k1
    have q1 : Mod_takeNumber F 0 999 (mr M p) = some (0, mr M1 p1) := q1
    dsimp only at q3
    rw [q1, Option.bind_some]
    dsimp only [lt]
    rw [if_pos hi, hcl, if_pos (show (0 : Int32) ≤ 0 by decide), zI_mr (by decide), mr_1 (by decide), q3]
    have j1 : jM n M (zI M1 81 n (nI a)) := (q2.h (n := n)).j.z (by decide)
    have u84 : ∀ X : zM, jM n M X → X.1 84 n = M.1 84 n → CU n [] X := fun X _ e => ⟨by rw [e]; exact hc.1, fun j hj => absurd hj (Nat.not_lt_zero j)⟩
    have r81 : (zI M1 81 n (nI a)).1 81 n = nI a := zI_in
    have r80 : (zI M1 81 n (nI a)).1 80 = M.1 80 := (zI_other (by decide)).trans (q2.1 80 (by decide))
    have r84 : (zI M1 81 n (nI a)).1 84 n = M.1 84 n := by rw [zI_other (by decide), q2.1 84 (by decide)]
    have z1' : Z87 (zI M1 81 n (nI a)) := hz.same ((zI_other (by decide)).trans (q2.1 87 (by decide)))
    generalize zI M1 81 n (nI a) = A1 at *
    have k2 := needs_ok (F := F) (a := 116) (b := 111) (p := p1) hB (j1.t hT) (j1.f h) z1' b1.2.1 (by decide) (by decide) hF
    cases c2 : kwS w [116, 111] p1 with
    | inl f =>
      rw [c2] at k2
      obtain ⟨M2, s1, s2⟩ := k2
      have s1 : Mod_needs F 116 111 (mr A1 p1) = some (nI f.1, M2) := s1
      rw [s1, Option.bind_some]
      exact bad35 hn s2
    | inr p2 =>
      have b2 := kwS_le b1.2.1 c2
      rw [c2] at k2
      obtain ⟨M2, s1, s2⟩ := k2
      have s1 : Mod_needs F 116 111 (mr A1 p1) = some (0, mr M2 p2) := s1
      rw [s1, Option.bind_some]
      dsimp only
      unfold Mod_takeForm_J35
      rw [if_pos (by decide), if_pos hi, hcl, congrFun (mr_o (M := M2) (p := p2) (show (81 : Nat) ≠ 63 by decide)) n, s2.1 81 (by decide), r81]
      have j2 : jM n M M2 := j1.tr (s2.h (n := n)).j
      have z2' : Z87 M2 := z1'.same (s2.1 87 (by decide))
      have k3 := tnum_ok (F := F) (lo := a) (hi := 999) (p := p2) hB (j2.t hT) (j2.f h) z2' b2.2 (by omega) (by decide) hF
      cases c3 : numS w a 999 p2 with
      | inl f =>
        rw [c3] at k3
        obtain ⟨M3, t1, t2⟩ := k3
        have t1 : Mod_takeNumber F (nI a) 999 (mr M2 p2) = some (nI f.1, M3) := t1
        rw [t1, Option.bind_some]
        exact bad57 hn t2
      | inr z3 =>
        obtain ⟨p3, b⟩ := z3
        have b3 := numS_le b2.2 c3
        rw [c3] at k3
        obtain ⟨M3, t1, t2, t3, t4⟩ := k3
        have t1 : Mod_takeNumber F (nI a) 999 (mr M2 p2) = some (0, mr M3 p3) := t1
        dsimp only at t3
        rw [t1, Option.bind_some]
        dsimp only
        unfold Mod_takeForm_J57
        dsimp only [lt]
        rw [if_pos hi, hcl, if_pos (by decide), zI_mr (by decide), mr_1 (by decide), t3]
        have j3 : jM n M (zI M3 82 n (nI b)) := (j2.tr (t2.h (n := n)).j).z (by decide)
        have v82 : (zI M3 82 n (nI b)).1 82 n = nI b := zI_in
        have v81 : (zI M3 82 n (nI b)).1 81 n = nI a := by rw [zI_other (by decide), t2.1 81 (by decide), s2.1 81 (by decide)]; exact r81
        have v80 : (zI M3 82 n (nI b)).1 80 = M.1 80 := by rw [zI_other (by decide), t2.1 80 (by decide), s2.1 80 (by decide)]; exact r80
        have v84 : (zI M3 82 n (nI b)).1 84 n = M.1 84 n := by rw [zI_other (by decide), t2.1 84 (by decide), s2.1 84 (by decide)]; exact r84
        have z3' : Z87 (zI M3 82 n (nI b)) := z2'.same ((zI_other (by decide)).trans (t2.1 87 (by decide)))
        generalize zI M3 82 n (nI b) = A3 at *
        have k4 := needs_ok (F := F) (a := 98) (b := 121) (p := p3) hB (j3.t hT) (j3.f h) z3' b3.2.1 (by decide) (by decide) hF
        cases c4 : kwS w [98, 121] p3 with
        | inl f =>
          rw [c4] at k4
          obtain ⟨M4, u1, u2⟩ := k4
          have u1 : Mod_needs F 98 121 (mr A3 p3) = some (nI f.1, M4) := u1
          rw [u1, Option.bind_some]
          exact bad84 hn u2
        | inr p4 =>
          have b4 := kwS_le b3.2.1 c4
          rw [c4] at k4
          obtain ⟨M4, u1, u2⟩ := k4
          have u1 : Mod_needs F 98 121 (mr A3 p3) = some (0, mr M4 p4) := u1
          rw [u1, Option.bind_some]
          dsimp only
          unfold Mod_takeForm_J84
          rw [if_pos (by decide)]
          have j4 : jM n M M4 := j3.tr (u2.h (n := n)).j
          have z4' : Z87 M4 := z3'.same (u2.1 87 (by decide))
          have k5 := tnum_ok (F := F) (lo := 2) (hi := 500) (p := p4) hB (j4.t hT) (j4.f h) z4' b4.2 (by decide) (by decide) hF
          cases c5 : numS w 2 500 p4 with
          | inl f =>
            rw [c5] at k5
            obtain ⟨M5, x1, x2⟩ := k5
            have x1 : Mod_takeNumber F 2 500 (mr M4 p4) = some (nI f.1, M5) := x1
            rw [x1, Option.bind_some]
            exact bad101 hn x2
          | inr z5 =>
            obtain ⟨p5, u⟩ := z5
            have b5 := numS_le b4.2 c5
            rw [c5] at k5
            obtain ⟨M5, x1, x2, x3, x4⟩ := k5
            have x1 : Mod_takeNumber F 2 500 (mr M4 p4) = some (0, mr M5 p5) := x1
            dsimp only at x3
            rw [x1, Option.bind_some]
            dsimp only
            unfold Mod_takeForm_J101
            dsimp only [lt]
            rw [if_pos hi, hcl, if_pos (by decide), zI_mr (by decide), mr_1 (by decide), x3]
            have j5 : jM n M (zI M5 83 n (nI u)) := (j4.tr (x2.h (n := n)).j).z (by decide)
            have y83 : (zI M5 83 n (nI u)).1 83 n = nI u := zI_in
            have y82 : (zI M5 83 n (nI u)).1 82 n = nI b := by rw [zI_other (by decide), x2.1 82 (by decide), u2.1 82 (by decide)]; exact v82
            have y81 : (zI M5 83 n (nI u)).1 81 n = nI a := by rw [zI_other (by decide), x2.1 81 (by decide), u2.1 81 (by decide)]; exact v81
            have y80 : (zI M5 83 n (nI u)).1 80 = M.1 80 := by rw [zI_other (by decide), x2.1 80 (by decide), u2.1 80 (by decide)]; exact v80
            have y84 : (zI M5 83 n (nI u)).1 84 n = M.1 84 n := by rw [zI_other (by decide), x2.1 84 (by decide), u2.1 84 (by decide)]; exact v84
            have z5' : Z87 (zI M5 83 n (nI u)) := z4'.same ((zI_other (by decide)).trans (x2.1 87 (by decide)))
            generalize zI M5 83 n (nI u) = A5 at *
            rw [here_ok hB (j5.t hT) b5.2.1 hF, Option.bind_some]
            dsimp only
            unfold sgS
            have s2' : skB w p5 ≤ w.length := (wh_sp qB b5.2.1).2.1
            by_cases c6 : gB w (skB w p5) = 58
            · have hlt6 := gB_in2 c6 (show 58 < 256 by decide)
              rw [if_pos c6, if_pos (show cI w (skB w p5) = 58 from (cI_eq hB (c := 58) (by decide)).mpr c6), mr_p, nI_1, mr_m]
              have k7 := formL (F := F) (n := n) (M0 := M0) hB hn hF 241 241 (skB w p5 + 1) [] A5 F true (Nat.le_refl _) (Nat.le_refl _) (by omega) (by omega) (j5.t hT) (j5.f h) z5' (u84 A5 j5 y84) (Nat.zero_le 8) ⟨fun q => (by cases q), fun q => absurd q (Nat.lt_irrefl 0)⟩ (by omega)
              dsimp only
              cases c7 : parS w 241 (skB w p5 + 1) none [] with
              | inl f =>
                rw [c7] at k7
                obtain ⟨M6, g1, g2⟩ := k7
                have g1 : loopN (Mod_takeForm_B149 F (nI n)) F (0, 1, mr A5 (skB w p5 + 1)) = some (1, nI f.1, 0, M6) := g1
                rw [g1, Option.bind_some]
                exact ⟨M6, rfl, g2⟩
              | inr z7 =>
                obtain ⟨p7, ps⟩ := z7
                rw [c7] at k7
                obtain ⟨M6, s, g1, g2, g3, g4, g5⟩ := k7
                have g1 : loopN (Mod_takeForm_B149 F (nI n)) F (0, 1, mr A5 (skB w p5 + 1)) = some (1, 0, 0, mr M6 s) := g1
                rw [g1, Option.bind_some]
                exact ⟨M6, s, rfl, j5.tr g2.j, g3, g4, by rw [g2.1 80 (by decide) (by decide)]; exact y80, by rw [g2.1 81 (by decide) (by decide)]; exact y81, by rw [g2.1 82 (by decide) (by decide)]; exact y82, by rw [g2.1 83 (by decide) (by decide)]; exact y83, g5⟩
            · rw [if_neg c6, if_neg (show ¬ cI w (skB w p5) = 58 from fun q => c6 ((cI_eq hB (c := 58) (by decide)).mp q)), mr_p]
              obtain ⟨M6, g1, g2⟩ := fails_ok (F := F) (f := 1) (pl := skB w p5) ((j5.f h).mr (p := skB w p5)) (z5'.same (mr_o (by decide))) (by decide)
              have g1 : Mod_fails F 1 (nI (skB w p5)) (mr A5 (skB w p5)) = some (1, M6) := g1
              rw [g1, Option.bind_some]
              exact ⟨M6, rfl, g2⟩

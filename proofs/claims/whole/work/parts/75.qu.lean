theorem zI_cm {M : zM} {a b k j : Nat} {v u : Int32} (h : a ≠ b) : zI (zI M a k v) b j u = zI (zI M b j u) a k v := by
  refine Prod.ext (funext fun c => ?_) rfl
  by_cases c1 : c = a
  · subst c1
    rw [zI_other h, zI_same, zI_same, zI_other h]
  · rw [zI_other c1]
    by_cases c2 : c = b
    · subst c2
      rw [zI_same, zI_same, zI_other c1]
    · rw [zI_other c2, zI_other c2, zI_other c1]
theorem zI_mr {M : zM} {p b k : Nat} {v : Int32} (h : b ≠ 63) : zI (mr M p) b k v = mr (zI M b k v) p := zI_cm (fun q => h q.symm)
theorem kM_K {k : Nat} (h : isK k = true) : 1 ≤ kM k ∧ kM k ≤ 5 := by
  have := of_decide_eq_true h
  rcases this with rfl | rfl | rfl | rfl | rfl <;> decide
theorem tprt_ok {F n p : Nat} {br : Bool} {ps : List Prt} {w : List Nat} {M0 M : zM} (hB : okB w) (hT : MT w M) (h : fM M0 M) (hz : Z87 M) (hc : CU n ps M) (hp : p ≤ w.length) (hn : n < 12) (h8 : ps.length ≤ 8) (hF : 3000 < F) : match prtS w (skB w p) br ps.length with
    | .inl f => ∃ M1, Mod_takePart F (nI n) (bI br) (mr M p) = some (nI f.1, M1) ∧ FMr M0 f M1
    | .inr z => ∃ M1, Mod_takePart F (nI n) (bI br) (mr M p) = some (0, mr M1 z.1) ∧ hM n M M1 ∧ Z87 M1 ∧ CU n (ps ++ [z.2]) M1 := by
  have h240 := hB.1
  have s2 : skB w p ≤ w.length := (wh_sp qB hp).2.1
  have ss := skB_i hp
  unfold Mod_takePart
  rw [here_ok hB hT hp hF, Option.bind_some]
  dsimp only
  rw [in_L hB, Option.bind_some]
  dsimp only
  generalize skB w p = s at *
  have e35 : cI w s = 35 ↔ gB w s = 35 := cI_eq hB (c := 35) (by decide)
  unfold prtS
  by_cases c1 : gB w s = 35 ∨ (97 ≤ gB w s ∧ gB w s ≤ 122)
  · rw [if_pos c1]
    have hlt : s < w.length := by
      rcases c1 with q | q
      · exact gB_in2 q (by decide)
      · exact gB_in2 (w := w) (p := s) rfl (by omega)
    have st : (if cI w s = 35 then Mod_takePart_J35 F (nI n) (bI br) (cI w s) (mr M s) else if bI (qL (gB w s)) = 0 then (Mod_fails F 1 ((mr M s).1 63 18) (mr M s)).bind fun (r_43, M_44) => some (r_43, M_44) else Mod_takePart_J35 F (nI n) (bI br) (cI w s) (mr M s)) = Mod_takePart_J35 F (nI n) (bI br) (cI w s) (mr M s) := by
      by_cases q : cI w s = 35
      · rw [if_pos q]
      · rw [if_neg q]
        have ql : qL (gB w s) = true := by
          rcases c1 with z | z
          · exact absurd (e35.mpr z) q
          · exact decide_eq_true z
        rw [ql, if_neg (show ¬ bI true = 0 by decide)]
    have cn := hc.1
    have cn' : (mr M s).1 84 n = nI ps.length := by rw [mr_o (by decide)]; exact cn
    have ix : (8 : Int32) * nI n + nI ps.length = nI (8 * n + ps.length) := by rw [show (8 : Int32) = nI 8 from rfl, pk_mul, nI_add]
    rw [st]
    unfold Mod_takePart_J35
    rw [if_pos (inb_nI hn (by decide)), nI_clamp (by omega), cn']
    by_cases c2 : 8 ≤ ps.length
    · rw [if_pos c2, if_pos (show nI ps.length = 8 by rw [show ps.length = 8 by omega]; rfl), mr_p]
      obtain ⟨M1, k1, k2⟩ := fails_ok (F := F) (f := 6) (pl := s) (h.mr (p := s)) (hz.same (mr_o (by decide))) (by decide)
      have k1 : Mod_fails F 6 (nI s) (mr M s) = some (6, M1) := k1
      rw [k1, Option.bind_some]
      exact ⟨M1, rfl, k2⟩
    · rw [if_neg c2, if_neg (show ¬ nI ps.length = 8 from fun q => by have := (nI_eq (b := 8) (by omega) (by decide)).mp q; omega), ix]
      dsimp only [lt]
      rw [if_pos (inb_nI (by omega) (by decide)), nI_clamp (by omega), bI_and, congrFun (zI_other (show (84 : Nat) ≠ 86 by decide)) n, cn', nI_1, zI_mr (by decide), zI_mr (by decide)]
      -- the base with the part begun
      have hM1 : hM n M (zI (zI M 86 (8 * n + ps.length) (bI br)) 84 n (nI (ps.length + 1))) := ⟨fun b b1 b2 => by rw [zI_other (by omega), zI_other (by omega)], rfl, fun k _ _ _ _ => rfl, fun k hk => by rw [zI_ne (Or.inr hk), zI_other (by decide)], fun k hk => ⟨rfl, by rw [zI_other (by decide), zI_ne (Or.inr (by omega))], rfl⟩, fun k hk => rfl⟩
      have v84 : (zI (zI M 86 (8 * n + ps.length) (bI br)) 84 n (nI (ps.length + 1))).1 84 n = nI (ps.length + 1) := zI_in
      have v86 : (zI (zI M 86 (8 * n + ps.length) (bI br)) 84 n (nI (ps.length + 1))).1 86 (8 * n + ps.length) = bI br := by rw [zI_other (by decide), zI_in]
      have w86 : ∀ k, k ≠ 8 * n + ps.length → (zI (zI M 86 (8 * n + ps.length) (bI br)) 84 n (nI (ps.length + 1))).1 86 k = M.1 86 k := fun k hk => by rw [zI_other (by decide), zI_ne (Or.inr hk)]
      have w85 : (zI (zI M 86 (8 * n + ps.length) (bI br)) 84 n (nI (ps.length + 1))).1 85 = M.1 85 := rfl
      have w87 : (zI (zI M 86 (8 * n + ps.length) (bI br)) 84 n (nI (ps.length + 1))).1 87 = M.1 87 := rfl
      have w88 : (zI (zI M 86 (8 * n + ps.length) (bI br)) 84 n (nI (ps.length + 1))).1 88 = M.1 88 := rfl
      generalize zI (zI M 86 (8 * n + ps.length) (bI br)) 84 n (nI (ps.length + 1)) = Mb at *
      have hTb := hM1.t hT
      have hfb := hM1.f h
      have hzb : Z87 Mb := hz.same w87
      -- the parts that stood before, and the new one
      have fin : ∀ (q : Prt) (M2 : zM), M2.1 84 n = nI (ps.length + 1) → (∀ k, k < 8 * n + ps.length → M2.1 85 k = M.1 85 k ∧ M2.1 86 k = M.1 86 k ∧ M2.1 87 k = M.1 87 k) → (∀ k, k < 12 * (8 * n + ps.length) → M2.1 88 k = M.1 88 k) → PM1 (8 * n + ps.length) q M2 → M2.1 86 (8 * n + ps.length) = bI q.2.1 → CU n (ps ++ [q]) M2 := fun q M2 t1 t2 t3 t4 t5 => by
        refine ⟨by rw [t1, List.length_append]; rfl, fun j hj => ?_⟩
        rw [List.length_append] at hj
        have hj : j < ps.length + 1 := hj
        by_cases y : j = ps.length
        · subst y
          rw [pg_2]
          exact ⟨t4, t5⟩
        · rw [pg_1 (by omega)]
          obtain ⟨⟨u1, u2⟩, u3⟩ := hc.2 j (by omega)
          obtain ⟨v1, v2, v3⟩ := t2 (8 * n + j) (by omega)
          refine ⟨⟨by rw [v1]; exact u1, fun q0 => ⟨(u2 q0).1, by rw [v3]; exact (u2 q0).2.1, fun i hi => ?_⟩⟩, by rw [v2]; exact u3⟩
          have ok12 := (u2 q0).1
          rw [t3 _ (by omega)]
          exact (u2 q0).2.2 i hi
      by_cases c3 : gB w s = 35
      · rw [if_pos c3, if_pos (e35.mpr c3), mr_p, nI_1, mr_m, hTb.mr.1, mr_p]
        have st2 : (if nI w.length ≤ nI (s + 1) then Mod_takePart_J135 F (nI (8 * n + ps.length)) (-1) (mr Mb (s + 1)) else if inb (nI (s + 1)) 240 = true then Mod_takePart_J135 F (nI (8 * n + ps.length)) ((mr Mb (s + 1)).1 79 (nI (s + 1)).toNatClampNeg) (mr Mb (s + 1)) else none) = Mod_takePart_J135 F (nI (8 * n + ps.length)) (cI w (s + 1)) (mr Mb (s + 1)) := by
          unfold cI
          by_cases q : s + 1 < w.length
          · rw [if_neg (nI_ge q (by omega)), if_pos (inb_nI (by omega) (by decide)), nI_clamp (by omega), hTb.mr.2 _ q, gB_in q, if_pos q]
          · rw [if_pos (nI_le (by omega) (by omega)), if_neg q]
        rw [st2]
        have eqs : ∀ k, k < 256 → (cI w (s + 1) = nI k ↔ gB w (s + 1) = k) := fun k hk => cI_eq hB hk
        by_cases c4 : isK (gB w (s + 1)) = true
        · rw [if_pos c4]
          have kk := kM_K c4
          have hlt2 := gB_in2 (w := w) (p := s + 1) rfl (isK_lt c4).1
          have j193 : Mod_takePart_J193 F (nI (8 * n + ps.length)) (nI (kM (gB w (s + 1)))) (mr Mb (s + 1)) = some (0, mr (zI Mb 85 (8 * n + ps.length) (nI (kM (gB w (s + 1))))) (s + 2)) := by
            unfold Mod_takePart_J193
            dsimp only [lt]
            rw [if_pos (ge0 (by omega)), if_pos (inb_nI (by omega) (by decide)), nI_clamp (by omega), zI_mr (by decide), mr_p, nI_1, mr_m]
          have j135 : Mod_takePart_J135 F (nI (8 * n + ps.length)) (cI w (s + 1)) (mr Mb (s + 1)) = Mod_takePart_J193 F (nI (8 * n + ps.length)) (nI (kM (gB w (s + 1)))) (mr Mb (s + 1)) := by
            have hk := of_decide_eq_true c4
            have ec : cI w (s + 1) = nI (gB w (s + 1)) := (eqs _ (isK_lt c4).1).mpr rfl
            unfold Mod_takePart_J135
            rw [ec]
            rcases hk with y | y | y | y | y <;> rw [y] <;> rfl
          rw [j135, j193]
          refine ⟨_, rfl, hM1.tr ⟨fun b b1 b2 => zI_other (by omega), rfl, fun k _ _ _ _ => rfl, fun k _ => rfl, fun k hk => ⟨zI_ne (Or.inr (by omega)), rfl, rfl⟩, fun k _ => rfl⟩, hzb.same rfl, fin _ _ v84 (fun k hk => ⟨by rw [zI_ne (Or.inr (by omega)), w85], w86 k (by omega), by show Mb.1 87 k = _; rw [w87]⟩) (fun k hk => by show Mb.1 88 k = _; rw [w88]) ⟨zI_in, fun q0 => absurd q0 (isK_lt c4).2⟩ v86⟩
        · rw [if_neg c4]
          have nk : ∀ k, isK k = true → k < 256 → ¬ cI w (s + 1) = nI k := fun k h1 h2 q => c4 (by rw [(eqs k h2).mp q]; exact h1)
          unfold Mod_takePart_J135
          rw [if_neg (show ¬ cI w (s + 1) = 113 from nk 113 (by decide) (by decide)), if_neg (show ¬ cI w (s + 1) = 116 from nk 116 (by decide) (by decide)), if_neg (show ¬ cI w (s + 1) = 114 from nk 114 (by decide) (by decide)), if_neg (show ¬ cI w (s + 1) = 99 from nk 99 (by decide) (by decide)), if_neg (show ¬ cI w (s + 1) = 110 from nk 110 (by decide) (by decide))]
          unfold Mod_takePart_J193
          rw [if_neg (by decide), mr_p]
          obtain ⟨M1, k1, k2⟩ := fails_ok (F := F) (f := 1) (pl := s + 1) (hfb.mr (p := s + 1)) (hzb.same (mr_o (by decide))) (by decide)
          have k1 : Mod_fails F 1 (nI (s + 1)) (mr Mb (s + 1)) = some (1, M1) := k1
          rw [k1, Option.bind_some]
          exact ⟨M1, rfl, k2⟩
      · rw [if_neg c3, if_neg (fun q => c3 (e35.mp q))]
        have k := tlet_ok (F := F) (n := n) (m := ps.length) (p := s) hB hTb hfb hzb s2 ss hn (by omega) hF
        cases e : letS w s with
        | inl f =>
          rw [e] at k
          obtain ⟨M1, k1, k2⟩ := k
          rw [k1, Option.bind_some]
          exact ⟨M1, rfl, k2⟩
        | inr z =>
          obtain ⟨e', l⟩ := z
          rw [e] at k
          obtain ⟨M1, k1, k2, k3, k4, k5, k6, k7, k8⟩ := k
          rw [k1, Option.bind_some]
          refine ⟨M1, rfl, hM1.tr k2, k3, fin (0, br, l) M1 (by rw [k4]; exact v84) (fun k hk => ⟨by rw [(k6 k (by omega)).1, w85], by rw [k5]; exact w86 k (by omega), by rw [(k6 k (by omega)).2, w87]⟩) (fun k hk => by rw [k7 k hk, w88]) k8 (by rw [k5]; exact v86)⟩
  · rw [if_neg c1]
    have ql : qL (gB w s) = false := decide_eq_false (fun q => c1 (Or.inr q))
    rw [if_neg (fun q => c1 (Or.inl (e35.mp q))), ql, if_pos (show bI false = 0 from rfl), mr_p]
    obtain ⟨M1, k1, k2⟩ := fails_ok (F := F) (f := 1) (pl := s) (h.mr (p := s)) (hz.same (mr_o (by decide))) (by decide)
    have k1 : Mod_fails F 1 (nI s) (mr M s) = some (1, M1) := k1
    rw [k1, Option.bind_some]
    exact ⟨M1, rfl, k2⟩

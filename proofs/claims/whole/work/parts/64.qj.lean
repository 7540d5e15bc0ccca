theorem seekX {F t : Nat} {S : Sp} {M : zM} (h : RX S M) (ht : t < 3) (hF : 3000 < F) : ∃ M1, Ton_seekTwins F (14 + 10 * t) M = some ((), M1) ∧ RX S M1 ∧ sameHi M M1 ∧ IsTw (S.2.2.1 t) (M1.1 (14 + 10 * t) 11) (M1.1 (14 + 10 * t) 12) (M1.1 (14 + 10 * t) 13) := by
  have hT := h.2.2.2.2.2.1 t ht
  obtain ⟨x0, x1, x2, x3, x4, x5⟩ := hT
  unfold Ton_seekTwins
  by_cases c : M.1 (14 + 10 * t) 10 = 0
  · have zc : zN 52 = 1000 := rfl
    obtain ⟨M1, e1, k1, k2, k3⟩ := putNamed_ok (F := F) (a := 14 + 10 * t) (c := 52) (T := S.2.2.1 t) (M := M) x3 (Or.inr (by omega)) zc hF
    have k3 : ∀ j, j < (named (S.2.2.1 t)).length → M1.1 52 j = nI ((named (S.2.2.1 t)).getD j 0) := k3
    have hz := (zN_tn ht).2
    have hC : ∀ M', M'.2 = M.2 → ∀ x y, x ∈ named (S.2.2.1 t) → y ∈ named (S.2.2.1 t) → Spe_compare F (14 + 10 * t + 3) (nI x) (14 + 10 * t + 3) (nI y) M' = some (cmpW (rnN (S.2.2.1 t) x) (rnN (S.2.2.1 t) y), M') := fun M' hM' x y hx hy => by
      have hx := named_mem hx
      have hy := named_mem hy
      obtain ⟨p1, -, p2⟩ := (x3 x hx.1).at hx.2
      obtain ⟨q1, -, q2⟩ := (x3 y hy.1).at hy.2
      exact scmp_ok (okW_run p1) (okW_run q1) (by omega) (by omega) (by rw [hz]; decide) (by rw [hz]; decide) (by rw [hM']; exact p2) (by rw [hM']; exact q2) hF
    obtain ⟨M2, L, e2, r2, p2, o2⟩ := sortX (F := F) (c := 52) (a5 := 14 + 10 * t + 3) (T := runT (S.2.2.1 t)) (M0 := M) (M := M1) (l0 := named (S.2.2.1 t)) zc (by decide) (named_len _) (named_lt _) (fun M' hM' x y hx hy => by rw [runT_W, runT_W]; exact hC M' hM' x y hx hy) ⟨fun b b1 _ => k1 b b1, k2, k3⟩ hF
    obtain ⟨r21, r22, r23⟩ := r2
    have lL := p2.length_eq
    have lN1 := named_len (S.2.2.1 t)
    rw [if_pos c]
    unfold Sor_bench
    rw [Option.bind_some]
    dsimp only [lt]
    rw [e1, Option.bind_some]
    dsimp only
    rw [k1 (14 + 10 * t) (by omega), x2, e2, Option.bind_some]
    dsimp only
    have a2 : ∀ k, k ≠ 11 → k ≠ 12 → k ≠ 13 → (zI (zI (zI M2 (14 + 10 * t) 11 (-1)) (14 + 10 * t) 12 (-1)) (14 + 10 * t) 13 0).1 (14 + 10 * t) k = M.1 (14 + 10 * t) k := fun k q1 q2 q3 => by
      rw [zI_ne (Or.inr q3), zI_ne (Or.inr q2), zI_ne (Or.inr q1), r21 _ (by omega) (by omega)]
    have b2 : ∀ b, b ≠ 14 + 10 * t → (zI (zI (zI M2 (14 + 10 * t) 11 (-1)) (14 + 10 * t) 12 (-1)) (14 + 10 * t) 13 0).1 b = M2.1 b := fun b hb => by
      rw [zI_other hb, zI_other hb, zI_other hb]
    have c11 : (zI (zI (zI M2 (14 + 10 * t) 11 (-1)) (14 + 10 * t) 12 (-1)) (14 + 10 * t) 13 0).1 (14 + 10 * t) 11 = -1 := by rw [zI_ne (Or.inr (by decide)), zI_ne (Or.inr (by decide)), zI_in]
    have c12 : (zI (zI (zI M2 (14 + 10 * t) 11 (-1)) (14 + 10 * t) 12 (-1)) (14 + 10 * t) 13 0).1 (14 + 10 * t) 12 = -1 := by rw [zI_ne (Or.inr (by decide)), zI_in]
    have c13 : (zI (zI (zI M2 (14 + 10 * t) 11 (-1)) (14 + 10 * t) 12 (-1)) (14 + 10 * t) 13 0).1 (14 + 10 * t) 13 = 0 := zI_in
    have d2 : (zI (zI (zI M2 (14 + 10 * t) 11 (-1)) (14 + 10 * t) 12 (-1)) (14 + 10 * t) 13 0).2 = M.2 := r22
    generalize zI (zI (zI M2 (14 + 10 * t) 11 (-1)) (14 + 10 * t) 12 (-1)) (14 + 10 * t) 13 0 = M3 at *
    obtain ⟨M4, e4, t4, u1, u2, u3⟩ := seekT (F := F) (a := 14 + 10 * t) (T := S.2.2.1 t) (L := L) (M := M3) (by omega) (by omega) (fun n hn => (named_mem (p2.subset hn)).1) (fun i j hi hj => by
      have := List.pairwise_iff_getElem.mp o2 i j (by omega) hj hi
      rw [← getD_g (by omega), ← getD_g hj] at this
      unfold ahead at this
      rw [runT_W, runT_W] at this
      exact this) (by rw [a2 1 (by decide) (by decide) (by decide), x2, lL]) (fun i hi => by rw [b2 52 (by omega)]; exact r23 i hi) (fun M' hM' x y hx hy => hC M' (hM'.trans d2) x y (p2.subset hx) (p2.subset hy)) c11 c12 c13 hF
    rw [e4, Option.bind_some]
    dsimp only
    rw [if_pos rfl]
    have fa : ∀ k, k ≠ 10 → (zI M4 (14 + 10 * t) 10 1).1 (14 + 10 * t) k = M4.1 (14 + 10 * t) k := fun k hk => zI_ne (Or.inr hk)
    have fo : ∀ b, b ≠ 14 + 10 * t → b ≠ 52 → b ≠ 51 → (zI M4 (14 + 10 * t) 10 1).1 b = M.1 b := fun b b1 b2' b3 => (zI_other b1).trans ((u1 b b1).trans ((b2 b b1).trans (r21 b b2' b3)))
    have f2 : (zI M4 (14 + 10 * t) 10 1).2 = M.2 := u2.trans d2
    have hW : IsTw (S.2.2.1 t) ((zI M4 (14 + 10 * t) 10 1).1 (14 + 10 * t) 11) ((zI M4 (14 + 10 * t) 10 1).1 (14 + 10 * t) 12) ((zI M4 (14 + 10 * t) 10 1).1 (14 + 10 * t) 13) := by
      rw [fa 11 (by decide), fa 12 (by decide), fa 13 (by decide)]
      exact t4.tw p2
    have ff : ∀ k, k ≠ 10 → k ≠ 11 → k ≠ 12 → k ≠ 13 → (zI M4 (14 + 10 * t) 10 1).1 (14 + 10 * t) k = M.1 (14 + 10 * t) k := fun k k0 k1 k2 k3 => (fa k k0).trans ((u3 k k1 k2 k3).trans (a2 k k1 k2 k3))
    refine ⟨_, rfl, h.tn ht (fun b b1 b2 b3 => ⟨fo b (by omega) (by omega) (by omega), by rw [f2]⟩) ⟨x0, ?_, ?_, fun n hn => (x3 n hn).keep1 (fun b b1 b2 => ⟨fo b (by omega) (by omega) (by omega), by rw [f2]⟩), ?_, Or.inr hW⟩, fun b hb => ⟨fo b (by omega) (by omega) (by omega), by rw [f2]⟩, hW⟩
    · rw [ff 0 (by decide) (by decide) (by decide) (by decide)]; exact x1
    · rw [ff 1 (by decide) (by decide) (by decide) (by decide)]; exact x2
    · rw [ff 9 (by decide) (by decide) (by decide) (by decide), fo (14 + 10 * t + 9) (by omega) (by omega) (by omega)]; exact x4
  · rw [if_neg c]
    rcases x5 with q | q
    · exact absurd q c
    · exact ⟨M, rfl, h, sameHi.rf, q⟩
theorem ok_twins {F : Nat} (hF : 3000 < F) (x y : Int32) : Good (NW_twins F x y) (Mod_twins F x y) := by
  cases h1 : inb x 3 with
  | false => exact mkGood0 (fun _ => -1001) (fun S M h => by simp [NW_twins, NW_isTongue_ok, h1, bI]) (fun S M h0 h => by simp [Mod_twins, Mod_isTongue_ok, h1, bI])
  | true =>
    obtain ⟨t, ht, rfl⟩ := inb_of h1 (by decide)
    have sm : ∀ M, Mod_twins F (nI t) y M = if bI (inb y 3) = 0 then some (-1002, M) else (Mod_findMixes F (nI t) M).bind fun (_r_9, M_10) => (loopN (Mod_twins_B43 F (nI t) y) F ((-1), (-1), 0, 0, M_10)).bind fun (k_51, x3_46, x4_47, x5_48, x6_49, M_50) => if k_51 = 1 then if y = 0 then some (x3_46, M_50) else if y = 1 then some (x4_47, M_50) else some (x5_48, M_50) else none := fun M => by
      unfold Mod_twins
      rw [Mod_isTongue_ok, h1, Option.bind_some]
      dsimp only
      rw [if_neg (by decide), Mod_in_ok, in_inb (n := 3) (by decide), Option.bind_some]
    have sx : ∀ M, NW_twins F (nI t) y M = if y = 0 then (Ton_lesserTwin F (14 + 10 * t) M).bind fun (r_15, M_16) => some (r_15, M_16) else if y = 1 then (Ton_greaterTwin F (14 + 10 * t) M).bind fun (r_12, M_13) => some (r_12, M_13) else if y = 2 then (Ton_twinCount F (14 + 10 * t) M).bind fun (r_9, M_10) => some (r_9, M_10) else some (-1002, M) := fun M => by
      unfold NW_twins
      rw [NW_isTongue_ok, h1, Option.bind_some]
      dsimp only
      rw [if_neg (by decide), if_pos rfl, tgA_n t ht]
    cases h2 : inb y 3 with
    | false =>
      refine mkGood0 (fun _ => -1002) (fun S M h => ?_) (fun S M h0 h => by rw [sm, h2]; rfl)
      have nn : ∀ k, k < 3 → ¬ y = nI k := fun k hk q => by rw [q, inb_nI hk (by decide)] at h2; cases h2
      rw [sx, if_neg (show ¬ y = 0 from nn 0 (by decide)), if_neg (show ¬ y = 1 from nn 1 (by decide)), if_neg (show ¬ y = 2 from nn 2 (by decide))]
    | true =>
      obtain ⟨k, hk, rfl⟩ := inb_of h2 (by decide)
      intro M ⟨S, r1, r2⟩
      obtain ⟨M1, e1, w1, s1, t1⟩ := seekX (F := F) r1 ht hF
      have r3 := r2.same s1
      have h0 := r1.ok
      have hT := (r3.2.2.2.1 t ht).2
      obtain ⟨M2, e2, f2, g2⟩ := mixes_ok (F := F) hT (okT h0 ht) ht hF
      obtain ⟨x', y', c', M3, e3, t3, f3⟩ := twM_ok (F := F) (x2 := nI k) (fun n hn => f2.mn (hT n hn)) (okT h0 ht) g2 ht hF
      obtain ⟨u1, u2, u3⟩ := t1.one t3
      have fy := f2.tr f3.y
      have vm : Mod_twins F (nI t) (nI k) M1 = some ((if nI k = 0 then x' else if nI k = 1 then y' else c'), M3) := by
        rw [sm, h2, if_neg (by decide), e2, Option.bind_some]
        dsimp only
        rw [e3, Option.bind_some]
        dsimp only
        rw [if_pos rfl]
        by_cases q0 : nI k = 0
        · rw [if_pos q0, if_pos q0]
        · rw [if_neg q0, if_neg q0]
          by_cases q1 : nI k = 1
          · rw [if_pos q1, if_pos q1]
          · rw [if_neg q1, if_neg q1]
      refine ⟨_, M1, M3, ?_, vm, S, w1.same fy.lo, fy.rm r3⟩
      rw [sx]
      unfold Ton_lesserTwin Ton_greaterTwin Ton_twinCount
      rw [e1]
      simp only [Option.bind_some]
      rw [u1, u2, u3]
      by_cases q0 : nI k = 0
      · rw [if_pos q0, if_pos q0]
      · rw [if_neg q0, if_neg q0]
        by_cases q1 : nI k = 1
        · rw [if_pos q1, if_pos q1]
        · rw [if_neg q1, if_neg q1]
          have q2 : k = 2 := by
            rcases (show k = 0 ∨ k = 1 ∨ k = 2 by omega) with rfl | rfl | rfl
            · exact absurd rfl q0
            · exact absurd rfl q1
            · rfl
          rw [q2, if_pos (show nI 2 = 2 from rfl)]

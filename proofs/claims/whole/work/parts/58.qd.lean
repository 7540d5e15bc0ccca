theorem ok_mixed {F : Nat} (hF : 3000 < F) (x y z u : Int32) : Good (NW_mixed F x y z u) (Mod_mixed F x y z u) := by
  cases h1 : inb x 3 with
  | false => exact mkGood0 (fun _ => -1001) (fun S M h => by simp [NW_mixed, NW_isTongue_ok, h1, bI]) (fun S M h0 h => by simp [Mod_mixed, Mod_isTongue_ok, h1, bI])
  | true =>
    cases h2 : inb z 1000 with
    | false => exact mkGood0 (fun _ => -1001) (fun S M h => by simp [NW_mixed, NW_isTongue_ok, NW_isNumber_ok, h1, h2, bI]) (fun S M h0 h => by simp [Mod_mixed, Mod_isTongue_ok, Mod_isNumber_ok, h1, h2, bI])
    | true =>
      cases h3 : inb u 1000 with
      | false => exact mkGood0 (fun _ => -1001) (fun S M h => by simp [NW_mixed, NW_isTongue_ok, NW_isNumber_ok, h1, h2, h3, bI]) (fun S M h0 h => by simp [Mod_mixed, Mod_isTongue_ok, Mod_isNumber_ok, h1, h2, h3, bI])
      | true =>
        obtain ⟨t, ht, rfl⟩ := inb_of h1 (by decide)
        obtain ⟨lo, hlo, rfl⟩ := inb_of h2 (by decide)
        obtain ⟨hi, hhi, rfl⟩ := inb_of h3 (by decide)
        have sx : ∀ M, NW_mixed F (nI t) y (nI lo) (nI hi) M = if y < 0 then some (-1002, M) else if 9 < y then some (-1002, M) else if nI hi < nI lo then some (-1002, M) else if (nI hi - nI lo) ≤ 60 then (loopN (NW_mixed_B61 F (nI t) y (nI hi)) F (0, nI lo, M)).bind fun (k_29, x5_26, x6_27, M_28) => if k_29 = 1 then some (x5_26, M_28) else none else some (-1002, M) := fun M => by
          unfold NW_mixed
          rw [NW_isTongue_ok, h1, Option.bind_some]
          dsimp only
          rw [if_neg (by decide), NW_isNumber_ok, h2, Option.bind_some]
          dsimp only
          rw [if_neg (by decide), NW_isNumber_ok, h3, Option.bind_some]
          dsimp only
          rw [if_neg (by decide)]
        have sm : ∀ M, Mod_mixed F (nI t) y (nI lo) (nI hi) M = if bI (inb y 10) = 0 then some (-1002, M) else if bI (decide (lo ≤ hi ∧ hi ≤ lo + 60)) = 0 then some (-1002, M) else (loopN (Mod_mixed_B64 F (nI t) y (nI hi)) F (0, nI lo, M)).bind fun (k_57, x5_54, x6_55, M_56) => if k_57 = 1 then some (x5_54, M_56) else none := fun M => by
          unfold Mod_mixed
          rw [Mod_isTongue_ok, h1, Option.bind_some]
          dsimp only
          rw [if_neg (by decide), Mod_isNumber_ok, h2, Option.bind_some]
          dsimp only
          rw [if_neg (by decide), Mod_isNumber_ok, h3, Option.bind_some]
          dsimp only
          rw [if_neg (by decide), Mod_in_ok, in_inb (n := 10) (by decide), Option.bind_some]
          dsimp only
          rw [Mod_in_ok, in_60 hlo hhi, Option.bind_some]
        cases h4 : inb y 10 with
        | false =>
          refine mkGood0 (fun _ => -1002) (fun S M h => ?_) (fun S M h0 h => by rw [sm, h4]; rfl)
          rw [sx]
          by_cases q0 : y < 0
          · rw [if_pos q0]
          · rw [if_neg q0]
            rcases inb_f h4 with q | q
            · exact absurd q q0
            · have q := q (by decide)
              rw [if_pos (by
                rw [Int32.le_iff_toInt_le, nI_toInt (by decide)] at q
                rw [Int32.lt_iff_toInt_lt, show (9 : Int32).toInt = 9 by decide]
                omega)]
        | true =>
          obtain ⟨k, hk, rfl⟩ := inb_of h4 (by decide)
          by_cases cr : lo ≤ hi ∧ hi ≤ lo + 60
          · refine mkGood (fun S => (nI (smF (S.2.2.1 t) k lo hi (hi - lo)), S)) (fun S M h => ?_) (fun S M h0 h => ?_)
            · rw [sx, if_neg (nI_pos (by omega)), if_neg (show ¬ (9 : Int32) < nI k from nI_nlt (a := 9) (by omega) (by omega)), if_neg (nI_nlt cr.1 (by omega)), pk_sub cr.1, if_pos (show nI (hi - lo) ≤ 60 from nI_le (b := 60) (by omega) (by decide))]
              have key := loopN_inv (body := NW_mixed_B61 F (nI t) (nI k) (nI hi)) (I := fun i s => ∃ M1, s = (nI (smF (S.2.2.1 t) k lo hi i), nI (lo + i), M1) ∧ f59 M M1) (Qx := fun q => ∃ M1, q = (1, nI (smF (S.2.2.1 t) k lo hi (hi - lo)), 0, M1) ∧ f59 M M1) (N := hi - lo) (F := F) (s := (0, nI lo, M)) (fun i s hi' hs => by
                obtain ⟨M1, rfl, f1⟩ := hs
                obtain ⟨M2, e2, f2⟩ := mixWX (F := F) (n := lo + i) (f1.rx h) ht hk (show lo + i ≤ hi by omega) hhi hF
                refine Or.inl ⟨(nI (smF (S.2.2.1 t) k lo hi (i + 1)), nI (lo + (i + 1)), M2), ?_, M2, rfl, f1.tr f2⟩
                unfold NW_mixed_B61
                dsimp only [lt]
                rw [if_neg (nI_ge (by omega) (by omega)), if_pos (show inb (nI t) 3 = true from h1), tgA_n t ht, e2, Option.bind_some]
                dsimp only
                rw [nI_add, nI_1, smF_s]
                rfl) (fun s hs => by
                obtain ⟨M1, rfl, f1⟩ := hs
                refine ⟨_, ?_, (fun q => by cases q), M1, rfl, f1⟩
                unfold NW_mixed_B61
                dsimp only
                rw [if_pos (nI_le (by omega) (by omega))]) (by omega) ⟨M, rfl, fun _ _ => rfl, fun _ _ => rfl⟩
              obtain ⟨q, e, M1, rfl, f1⟩ := key
              rw [e, Option.bind_some]
              exact ⟨M1, rfl, f1.rx h, f1.hi⟩
            · rw [sm, h4, if_neg (by decide), decide_eq_true cr, if_neg (by decide)]
              have hT := (h.2.2.2.1 t ht).2
              have key := loopN_inv (body := Mod_mixed_B64 F (nI t) (nI k) (nI hi)) (I := fun i s => ∃ M1, s = (nI (smF (S.2.2.1 t) k lo hi i), nI (lo + i), M1) ∧ f9x M M1) (Qx := fun q => ∃ M1, q = (1, nI (smF (S.2.2.1 t) k lo hi (hi - lo + 1)), 0, M1) ∧ f9x M M1) (N := hi - lo + 1) (F := F) (s := (0, nI lo, M)) (fun i s hi' hs => by
                obtain ⟨M1, rfl, f1⟩ := hs
                obtain ⟨M2, e2, f2⟩ := mixWM (F := F) (n := lo + i) (acc := smF (S.2.2.1 t) k lo hi i) (fun n hn => f1.mn (hT n hn)) (okT h0 ht) ht hk (show lo + i ≤ hi by omega) hhi hF
                refine Or.inl ⟨(nI (smF (S.2.2.1 t) k lo hi (i + 1)), nI (lo + (i + 1)), M2), ?_, M2, rfl, f1.tr f2⟩
                unfold Mod_mixed_B64
                dsimp only [lt]
                rw [if_neg (nI_nlt (by omega) (by omega)), nI_1, e2, Option.bind_some]
                rfl) (fun s hs => by
                obtain ⟨M1, rfl, f1⟩ := hs
                refine ⟨_, ?_, (fun q => by cases q), M1, rfl, f1⟩
                unfold Mod_mixed_B64
                dsimp only
                rw [if_pos (nI_lt (by omega) (by omega))]) (by omega) ⟨M, rfl, f9x.rf⟩
              obtain ⟨q, e, M1, rfl, f1⟩ := key
              rw [e, Option.bind_some]
              refine ⟨M1, ?_, f1.rm h, f1.lo⟩
              dsimp only
              rw [if_pos rfl, smF_s, show hi - (lo + (hi - lo)) = 0 by omega]
              rfl
          · refine mkGood0 (fun _ => -1002) (fun S M h => ?_) (fun S M h0 h => by rw [sm, h4, if_neg (by decide), decide_eq_false cr]; rfl)
            rw [sx, if_neg (nI_pos (by omega)), if_neg (show ¬ (9 : Int32) < nI k from nI_nlt (a := 9) (by omega) (by omega))]
            by_cases c : hi < lo
            · rw [if_pos (nI_lt c (by omega))]
            · rw [if_neg (nI_nlt (by omega) (by omega)), pk_sub (by omega), if_neg (show ¬ nI (hi - lo) ≤ 60 from nI_ge (a := 60) (by omega) (by omega))]

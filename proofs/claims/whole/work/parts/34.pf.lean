/-! uses, first -/
def cnW (k : Nat) (w : List Nat) : Nat → Nat
  | 0 => 0
  | i + 1 => cnW k w i + (if i < w.length ∧ w.getD i 0 = k then 1 else 0)
theorem cnW_s (k : Nat) (w : List Nat) (i : Nat) : cnW k w (i + 1) = cnW k w i + (if i < w.length ∧ w.getD i 0 = k then 1 else 0) := rfl
theorem cnW_le (k : Nat) (w : List Nat) : ∀ i, cnW k w i ≤ i := by
  intro i
  induction i with
  | zero => exact Nat.le_refl _
  | succ i ih => rw [cnW_s]; split <;> omega
theorem cnW_end (k : Nat) (w : List Nat) : ∀ j, cnW k w (w.length + j) = cnW k w w.length := by
  intro j
  induction j with
  | zero => rfl
  | succ j ih => rw [← Nat.add_assoc, cnW_s, ih, if_neg (by omega)]; rfl
theorem sgA_k {w : List Nat} {k p : Nat} (hw : ∀ x ∈ w, isLt x) (hk : isLt k) : sgA w p = sgn k ↔ p < w.length ∧ w.getD p 0 = k := by
  unfold sgA
  by_cases c : p < w.length
  · have e : w[p]? = some (w.getD p 0) := by rw [List.getD_eq_getElem?_getD, List.getElem?_eq_getElem c]; rfl
    rw [e]
    have := sgn_mono (hw _ (getD_mem c)) hk
    exact ⟨fun q => ⟨c, this.1.mp q⟩, fun q => this.1.mpr q.2⟩
  · rw [List.getElem?_eq_none (by omega)]
    have := sgn_lt hk
    exact ⟨fun q => by have : 0 = sgn k := q; omega, fun q => absurd q.1 c⟩
theorem dn5 : ∀ j, j < 12 → (55 - nI (5 * j)) + (-5) = 55 - nI (5 * (j + 1)) ∧ 55 - nI (5 * j) = nI (55 - 5 * j) := by decide
theorem count_in {F a i k : Nat} {x1 x5 : Int32} {w : List Nat} {M : zM} (hw : ∀ x ∈ w, isLt x) (hk : isLt k) (hi : i < 5) (hF : 3000 < F) : loopN (Spe_count_B35 F a x1 (nI (sgn k)) x5 (pk w i)) F (nI (cnW k w (12 * i)), 55, M) = some (1, nI (cnW k w (12 * (i + 1))), 0, M) := by
  have key := loopN_seq (body := Spe_count_B35 F a x1 (nI (sgn k)) x5 (pk w i)) 12 (fun j => (nI (cnW k w (12 * i + j)), 55 - nI (5 * j), M)) (1, nI (cnW k w (12 * (i + 1))), 0, M) F (fun j hj => by
    have hs : sgA w (12 * i + j) < 32 := by
      unfold sgA
      cases e : w[12 * i + j]? with
      | none => exact (by decide : 0 < 32)
      | some q => exact (sgn_lt (hw q (List.mem_of_getElem? e))).1
    have hk2 := sgn_lt hk
    unfold Spe_count_B35
    dsimp only [lt]
    rw [(dn5 j hj).1, (dn5 j hj).2, if_neg (nI_pos (by omega)), sign_ok hw hj, Option.bind_some]
    dsimp only
    rw [← Nat.add_assoc, cnW_s]
    by_cases c : 12 * i + j < w.length ∧ w.getD (12 * i + j) 0 = k
    · rw [if_pos c, if_pos (by rw [(sgA_k hw hk).mpr c]), nI_1]
    · rw [if_neg c, if_neg (fun q => c ((sgA_k hw hk).mp ((nI_eq (by omega) (by omega)).mp q)))]; rfl) (by
    unfold Spe_count_B35
    dsimp only
    rw [if_pos (by decide), Nat.mul_succ]) (fun q => by cases q) (by omega)
  exact key
theorem count_ok {F a n c : Nat} {w : List Nat} {M : zM} (hw : okW w) (hc : c < 26) (hN : 5 * n + 5 ≤ zN (a + 1)) (hN2 : zN (a + 1) < 2 ^ 31) (hp : ∀ i, i < 5 → M.2 (a + 1) (5 * n + i) = pk w i) (hF : 3000 < F) : Spe_count F a (nI n) (97 + nI c) M = some (nI (cnW (97 + c) w w.length), M) := by
  have hk : isLt (97 + c) := Or.inr (by omega)
  have e97 : (97 : Int32) + nI c = nI (97 + c) := by rw [show (97 : Int32) = nI 97 from rfl, nI_add]
  have e2 : Lin_signIn F (lN (pkN [97 + c] 12)) 55 M = some (nI (sgn (97 + c)), M) := sign_ok (w := [97 + c]) (i := 0) (j := 0) (fun x hx => by simp at hx; rw [hx]; exact hk) (by decide)
  have key := loopN_seq (body := Spe_count_B16 F a (nI n) (nI (sgn (97 + c)))) 5 (fun i => (nI (cnW (97 + c) w (12 * i)), nI i, M)) (1, nI (cnW (97 + c) w 60), 0, M) F (fun i hi => by
    unfold Spe_count_B16
    dsimp only [lt]
    rw [if_neg (show ¬ (5 : Int32) ≤ nI i from nI_ge (b := 5) hi (by decide)), signs_ok (by omega) hN2, Option.bind_some]
    dsimp only
    rw [hp i hi, count_in hw.2 hk hi hF, Option.bind_some]
    dsimp only
    rw [if_pos rfl, nI_1]) (by
    unfold Spe_count_B16
    exact if_pos (by decide)) (fun q => by cases q) (by omega)
  unfold Spe_count
  rw [e97, signOf_ok hk, Option.bind_some]
  dsimp only
  rw [e2, Option.bind_some]
  dsimp only
  have key : loopN (Spe_count_B16 F a (nI n) (nI (sgn (97 + c)))) F (0, 0, M) = _ := key
  have e60 := cnW_end (97 + c) w (60 - w.length)
  rw [show w.length + (60 - w.length) = 60 by have := hw.1; omega] at e60
  rw [key, Option.bind_some, e60]
  rfl
def cnO (k : Nat) (q : Option Nm) : Nat := match q with
  | none => 0
  | some q => cnW k q.1 q.1.length
theorem countOf_ok {F t n c : Nat} {T : Tn} {M : zM} (h : XT (14 + 10 * t) T M) (ht : t < 3) (hn : n < 1000) (hc : c < 26) (hF : 3000 < F) : Ton_countOf F (14 + 10 * t) (97 + nI c) (nI n) M = some (nI (cnO (97 + c) (T.2 n)), M) := by
  have hx := h.2.2.2.1 n hn
  have hz := zN_names ht
  unfold Ton_countOf
  rw [has_ok h hn, Option.bind_some]
  dsimp only
  unfold XN at hx
  cases e : T.2 n with
  | none => rfl
  | some q =>
    obtain ⟨w, b, d⟩ := q
    rw [e] at hx
    obtain ⟨ok, -, -, -, -, -, -, -, p1, -⟩ := hx
    rw [if_neg (show ¬ bI (some (w, b, d)).isSome = 0 from fun q => absurd (show (1 : Int32) = 0 from q) (by decide)), count_ok ok hc (by omega) (by omega) p1 hF, Option.bind_some]
    rfl
theorem usesIn_ok {F t n c : Nat} {q : Option Nm} {M : zM} (h : MN (1000 * t + n) q M) (hq : ∀ z, q = some z → okW z.1) (ht : t < 3) (hn : n < 1000) (hc : c < 26) (hF : 3000 < F) : Mod_usesIn F (nI t) (nI n) (nI c) M = some (nI (cnO (97 + c) q), M) := by
  have e1 : inb (nI (1000 * t + n)) 3000 = true := inb_nI (by omega) (by decide)
  have e2 : (nI (1000 * t + n)).toNatClampNeg = 1000 * t + n := nI_clamp (by omega)
  have e97 : nI c + 97 = nI (97 + c) := by rw [show (97 : Int32) = nI 97 from rfl, nI_add, Nat.add_comm]
  unfold Mod_usesIn
  dsimp only [lt]
  rw [ix_t]
  cases q with
  | none =>
    have h := h.1
    have key := loopN_seq (body := Mod_usesIn_B15 F (nI c) (nI (1000 * t + n))) 0 (fun _ => (0, 0, M)) (1, 0, 0, M) F (fun i hi => by omega) (by
      unfold Mod_usesIn_B15
      dsimp only
      rw [if_pos e1, e2, h, if_pos (by decide)]) (fun q => by cases q) (by omega)
    have key : loopN (Mod_usesIn_B15 F (nI c) (nI (1000 * t + n))) F (0, 0, M) = _ := key
    rw [key]
    rfl
  | some z =>
    obtain ⟨w, b, d⟩ := z
    obtain ⟨h1, -, -, -, h5⟩ := h
    have ok : okW w := hq _ rfl
    have h60 := ok.1
    have key := loopN_seq (body := Mod_usesIn_B15 F (nI c) (nI (1000 * t + n))) w.length (fun i => (nI (cnW (97 + c) w i), nI i, M)) (1, nI (cnW (97 + c) w w.length), 0, M) F (fun i hi => by
      have hm := isLt_32 (ok.2 _ (getD_mem hi))
      have hby : mB M (1000 * t + n) i = nI (w.getD i 0) := h5 i hi
      have h1 : M.1 74 (1000 * t + n) = nI w.length := h1
      unfold Mod_usesIn_B15
      dsimp only [lt]
      rw [if_pos e1, e2, h1, if_neg (nI_ge hi (by omega)), Mod_byteOf_ok (by omega) (by omega), hby, Option.bind_some, e97]
      dsimp only
      rw [cnW_s]
      by_cases q : w.getD i 0 = 97 + c
      · rw [if_pos (by rw [q]), if_pos ⟨hi, q⟩, nI_1, nI_1]
      · rw [if_neg (fun z => q ((nI_eq (by omega) (by omega)).mp z)), if_neg (fun z => q z.2), nI_1]
        simp) (by
      have h1 : M.1 74 (1000 * t + n) = nI w.length := h1
      unfold Mod_usesIn_B15
      dsimp only
      rw [if_pos e1, e2, h1, if_pos (nI_le (Nat.le_refl _) (by omega))]) (fun q => by cases q) (by omega)
    have key : loopN (Mod_usesIn_B15 F (nI c) (nI (1000 * t + n))) F (0, 0, M) = _ := key
    rw [key]
    rfl
theorem ok_uses {F : Nat} (hF : 3000 < F) (x l y z : Int32) : Good (NW_uses F x l y z) (Mod_uses F x l y z) := by
  cases h1 : inb x 3 with
  | false => exact mkGood0 (fun _ => -1001) (fun S M h => by simp [NW_uses, NW_isTongue_ok, h1, bI]) (fun S M h0 h => by simp [Mod_uses, Mod_isTongue_ok, h1, bI])
  | true =>
    cases h2 : inb y 1000 with
    | false => exact mkGood0 (fun _ => -1001) (fun S M h => by simp [NW_uses, NW_isTongue_ok, NW_isNumber_ok, h1, h2, bI]) (fun S M h0 h => by simp [Mod_uses, Mod_isTongue_ok, Mod_isNumber_ok, h1, h2, bI])
    | true =>
      cases h3 : inb z 1000 with
      | false => exact mkGood0 (fun _ => -1001) (fun S M h => by simp [NW_uses, NW_isTongue_ok, NW_isNumber_ok, h1, h2, h3, bI]) (fun S M h0 h => by simp [Mod_uses, Mod_isTongue_ok, Mod_isNumber_ok, h1, h2, h3, bI])
      | true =>
        have e25 : decide ((0 : Int64) ≤ l.toInt64 ∧ l.toInt64 ≤ 25) = inb l 26 := in_inb (n := 26) (by decide)
        cases h4 : inb l 26 with
        | false => exact mkGood0 (fun _ => -1002) (fun S M h => by
            simp only [NW_uses, NW_isTongue_ok, NW_isNumber_ok, NW_isLetter_ok, h1, h2, h3, h4, bI, if_true, Option.bind_some]
            rw [if_neg (by decide), if_neg (by decide), if_neg (by decide), if_pos (by decide)]) (fun S M h0 h => by
            simp only [Mod_uses, Mod_isTongue_ok, Mod_isNumber_ok, Mod_in_ok, e25, h1, h2, h3, h4, bI, if_true, Option.bind_some]
            rw [if_neg (by decide), if_neg (by decide), if_neg (by decide), if_pos (by decide)])
        | true =>
          by_cases c : y ≤ z
          · obtain ⟨t, ht, rfl⟩ := inb_of h1 (by decide)
            obtain ⟨a, ha, rfl⟩ := inb_of h2 (by decide)
            obtain ⟨b, hb, rfl⟩ := inb_of h3 (by decide)
            obtain ⟨k, hk, rfl⟩ := inb_of h4 (by decide)
            have hab : a ≤ b := (nI_leI (by omega) (by omega)).mp c
            refine mkGood0 (fun S => accI (fun n => nI (cnO (97 + k) ((S.2.2.1 t).2 n))) a (b + 1 - a)) (fun S M h => ?_) (fun S M h0 h => ?_)
            · have hT := h.2.2.2.2.2.1 t ht
              have key := acc_loop (body := NW_uses_B49 F (nI t) (nI k) (nI b)) (f := fun n => nI (cnO (97 + k) ((S.2.2.1 t).2 n))) (M := M) hab hb (fun n s h4 h5 => by
                unfold NW_uses_B49
                dsimp only [lt]
                rw [if_neg (nI_nlt h5 (by omega)), if_pos h1, tgA_n t ht, countOf_ok hT ht (by omega) hk hF, Option.bind_some]
                dsimp only
                rw [nI_1]) (fun s => if_pos (nI_lt (by omega) (by omega))) hF
              simp only [NW_uses, NW_isTongue_ok, NW_isNumber_ok, NW_isLetter_ok, h1, h2, h3, h4, bI, if_true, Option.bind_some]
              rw [if_neg (by decide), if_neg (by decide), if_neg (by decide), if_neg (by decide), if_pos c, key, Option.bind_some]
              rfl
            · have key := acc_loop (body := Mod_uses_B54 F (nI t) (nI k) (nI b)) (f := fun n => nI (cnO (97 + k) ((S.2.2.1 t).2 n))) (M := M) hab hb (fun n s h4 h5 => by
                unfold Mod_uses_B54
                dsimp only [lt]
                rw [if_neg (nI_nlt h5 (by omega)), usesIn_ok ((h.2.2.2.1 t ht).2 n (by omega)) (fun z hz => ((h0.2.2.1 t ht).2 n (by omega) z.1 z.2.1 z.2.2 hz).1) ht (by omega) hk hF, Option.bind_some]
                dsimp only
                rw [nI_1]) (fun s => if_pos (nI_lt (by omega) (by omega))) hF
              simp only [Mod_uses, Mod_isTongue_ok, Mod_isNumber_ok, Mod_in_ok, e25, h1, h2, h3, h4, bI, if_true, Option.bind_some]
              rw [if_neg (by decide), if_neg (by decide), if_neg (by decide), if_neg (by decide), if_pos c, key, Option.bind_some]
              rfl
          · exact mkGood0 (fun _ => -1002) (fun S M h => by
              simp only [NW_uses, NW_isTongue_ok, NW_isNumber_ok, NW_isLetter_ok, h1, h2, h3, h4, bI, if_true, Option.bind_some]
              rw [if_neg (by decide), if_neg (by decide), if_neg (by decide), if_neg (by decide), if_neg c]) (fun S M h0 h => by
              simp only [Mod_uses, Mod_isTongue_ok, Mod_isNumber_ok, Mod_in_ok, e25, h1, h2, h3, h4, bI, if_true, Option.bind_some]
              rw [if_neg (by decide), if_neg (by decide), if_neg (by decide), if_neg (by decide), if_neg c])
theorem first_loop {body : Int32 × zM → Option (Nat × (Int32 × zM))} {p : Nat → Bool} {F : Nat} {M : zM} (h0 : ∀ n, n < 1000 → p n = false → body (nI n, M) = some (0, nI (n + 1), M)) (h1 : ∀ n, n < 1000 → p n = true → body (nI n, M) = some (1, nI n, M)) (h2 : body (nI 1000, M) = some (2, 0, M)) (hF : 3000 < F) : ∃ q, loopN body F (0, M) = some q ∧ (q = (1, nthI (flN p 1000) 0, M) ∨ q = (2, 0, M) ∧ nthI (flN p 1000) 0 = -1) := by
  refine loopN_inv (body := body) (I := fun n s => s = (nI n, M) ∧ flN p n = []) (Qx := fun q => q = (1, nthI (flN p 1000) 0, M) ∨ q = (2, 0, M) ∧ nthI (flN p 1000) 0 = -1) (N := 1000) (F := F) (s := (0, M)) (fun n s hn hs => ?_) (fun s hs => ?_) (by omega) ⟨rfl, rfl⟩
  · obtain ⟨rfl, hx⟩ := hs
    cases hp : p n with
    | false =>
      refine Or.inl ⟨_, h0 n hn hp, rfl, ?_⟩
      rw [flN_s, if_neg (by rw [hp]; decide), hx]
    | true =>
      refine Or.inr ⟨_, h1 n hn hp, (fun q => by cases q), Or.inl ?_⟩
      have hat := flN_at p hn hp
      rw [hx] at hat
      have hat : (flN p 1000)[0]? = some n := hat
      have hlt : 0 < (flN p 1000).length := (List.getElem?_eq_some_iff.mp hat).1
      have := flN_len p 1000
      have e : nthI (flN p 1000) 0 = nI n := by
        unfold nthI
        rw [show (0 : Int32) = nI 0 from rfl, if_pos (inb_nI hlt (by omega)), nI_clamp (by omega), List.getD_eq_getElem?_getD, hat]
        rfl
      rw [e]
  · obtain ⟨rfl, hx⟩ := hs
    refine ⟨_, h2, (fun q => by cases q), Or.inr ⟨rfl, ?_⟩⟩
    unfold nthI
    rw [hx]
    rfl
theorem nI_le0 {k : Nat} (h : k < 2 ^ 31) : nI k ≤ 0 ↔ k = 0 := by
  rw [show (0 : Int32) = nI 0 from rfl, nI_leI h (by decide)]; omega
theorem ok_first {F : Nat} (hF : 3000 < F) (x l : Int32) : Good (NW_first F x l) (Mod_first F x l) := by
  cases h1 : inb x 3 with
  | false => exact mkGood0 (fun _ => -1001) (fun S M h => by simp [NW_first, NW_isTongue_ok, h1, bI]) (fun S M h0 h => by simp [Mod_first, Mod_isTongue_ok, h1, bI])
  | true =>
    have e25 : decide ((0 : Int64) ≤ l.toInt64 ∧ l.toInt64 ≤ 25) = inb l 26 := in_inb (n := 26) (by decide)
    cases h4 : inb l 26 with
    | false => exact mkGood0 (fun _ => -1002) (fun S M h => by
        simp only [NW_first, NW_isTongue_ok, NW_isLetter_ok, h1, h4, bI, if_true, Option.bind_some]
        rw [if_neg (by decide), if_pos (by decide)]) (fun S M h0 h => by
        simp only [Mod_first, Mod_isTongue_ok, Mod_in_ok, e25, h1, h4, bI, if_true, Option.bind_some]
        rw [if_neg (by decide), if_pos (by decide)])
    | true =>
      obtain ⟨t, ht, rfl⟩ := inb_of h1 (by decide)
      obtain ⟨k, hk, rfl⟩ := inb_of h4 (by decide)
      have hle : ∀ S n, okS S → n < 1000 → cnO (97 + k) ((S.2.2.1 t).2 n) < 2 ^ 31 := fun S n h0 hn => by
        unfold cnO
        cases e : (S.2.2.1 t).2 n with
        | none => exact (by decide : 0 < 2 ^ 31)
        | some q =>
          have := ((h0.2.2.1 t ht).2 n hn q.1 q.2.1 q.2.2 e).1.1
          have := cnW_le (97 + k) q.1 q.1.length
          show cnW (97 + k) q.1 q.1.length < _
          omega
      refine mkGood0 (fun S => nthI (flN (fun n => decide (0 < cnO (97 + k) ((S.2.2.1 t).2 n))) 1000) 0) (fun S M h => ?_) (fun S M h0 h => ?_)
      · have hT := h.2.2.2.2.2.1 t ht
        obtain ⟨q, e1, e2⟩ := first_loop (body := NW_first_B24 F (nI t) (nI k)) (p := fun n => decide (0 < cnO (97 + k) ((S.2.2.1 t).2 n))) (F := F) (M := M) (fun n hn hp => by
          have hp := of_decide_eq_false hp
          unfold NW_first_B24
          dsimp only [lt]
          rw [if_neg (show ¬ (1000 : Int32) ≤ nI n from nI_ge (b := 1000) hn (by decide)), if_pos h1, tgA_n t ht, countOf_ok hT ht hn hk hF, Option.bind_some]
          dsimp only
          rw [if_pos ((nI_le0 (hle S n h.ok hn)).mpr (by omega)), nI_1]) (fun n hn hp => by
          have hp := of_decide_eq_true hp
          unfold NW_first_B24
          dsimp only [lt]
          rw [if_neg (show ¬ (1000 : Int32) ≤ nI n from nI_ge (b := 1000) hn (by decide)), if_pos h1, tgA_n t ht, countOf_ok hT ht hn hk hF, Option.bind_some]
          dsimp only
          rw [if_neg (fun q => by have := (nI_le0 (hle S n h.ok hn)).mp q; omega)]) (by
          unfold NW_first_B24
          exact if_pos (by decide)) hF
        simp only [NW_first, NW_isTongue_ok, NW_isLetter_ok, h1, h4, bI, if_true, Option.bind_some]
        rw [if_neg (by decide), if_neg (by decide), e1, Option.bind_some]
        generalize nthI (flN (fun n => decide (0 < cnO (97 + k) ((S.2.2.1 t).2 n))) 1000) 0 = rr at e2 ⊢
        rcases e2 with rfl | ⟨rfl, e⟩
        · rfl
        · rw [e]; rfl
      · obtain ⟨q, e1, e2⟩ := first_loop (body := Mod_first_B29 F (nI t) (nI k)) (p := fun n => decide (0 < cnO (97 + k) ((S.2.2.1 t).2 n))) (F := F) (M := M) (fun n hn hp => by
          have hp := of_decide_eq_false hp
          unfold Mod_first_B29
          dsimp only [lt]
          rw [if_neg (show ¬ (1000 : Int32) ≤ nI n from nI_ge (b := 1000) hn (by decide)), usesIn_ok ((h.2.2.2.1 t ht).2 n (by omega)) (fun z hz => ((h0.2.2.1 t ht).2 n (by omega) z.1 z.2.1 z.2.2 hz).1) ht hn hk hF, Option.bind_some]
          dsimp only
          rw [if_pos ((nI_le0 (hle S n h0 hn)).mpr (by omega)), nI_1]) (fun n hn hp => by
          have hp := of_decide_eq_true hp
          unfold Mod_first_B29
          dsimp only [lt]
          rw [if_neg (show ¬ (1000 : Int32) ≤ nI n from nI_ge (b := 1000) hn (by decide)), usesIn_ok ((h.2.2.2.1 t ht).2 n (by omega)) (fun z hz => ((h0.2.2.1 t ht).2 n (by omega) z.1 z.2.1 z.2.2 hz).1) ht hn hk hF, Option.bind_some]
          dsimp only
          rw [if_neg (fun q => by have := (nI_le0 (hle S n h0 hn)).mp q; omega)]) (by
          unfold Mod_first_B29
          exact if_pos (by decide)) hF
        simp only [Mod_first, Mod_isTongue_ok, Mod_in_ok, e25, h1, h4, bI, if_true, Option.bind_some]
        rw [if_neg (by decide), if_neg (by decide), e1, Option.bind_some]
        generalize nthI (flN (fun n => decide (0 < cnO (97 + k) ((S.2.2.1 t).2 n))) 1000) 0 = rr at e2 ⊢
        rcases e2 with rfl | ⟨rfl, e⟩
        · rfl
        · rw [e]; rfl

theorem okT {S : Sp} (h : okS S) {t : Nat} (ht : t < 3) : ∀ n, n < 1000 → ∀ w b d, (S.2.2.1 t).2 n = some (w, b, d) → okW w := fun n hn w b d e => ((h.2.2.1 t ht).2 n hn w b d e).1
theorem isNn {q : Option Nm} (h : q.isSome = false) : q = none := by
  cases q with
  | none => rfl
  | some z => cases h
theorem ge0 {n : Nat} (h : n < 2 ^ 31) : 0 ≤ nI n := nI_le (a := 0) (Nat.zero_le n) h
theorem ok_far {F : Nat} (hF : 3000 < F) (x y z : Int32) : Good (NW_far F x y z) (Mod_far F x y z) := by
  cases h1 : inb x 3 with
  | false => exact mkGood0 (fun _ => -1001) (fun S M h => by simp [NW_far, NW_isTongue_ok, h1, bI]) (fun S M h0 h => by simp [Mod_far, Mod_isTongue_ok, h1, bI])
  | true =>
    cases h2 : inb y 1000 with
    | false => exact mkGood0 (fun _ => -1001) (fun S M h => by simp [NW_far, NW_isTongue_ok, NW_isNumber_ok, h1, h2, bI]) (fun S M h0 h => by simp [Mod_far, Mod_isTongue_ok, Mod_isNumber_ok, h1, h2, bI])
    | true =>
      cases h3 : inb z 1000 with
      | false => exact mkGood0 (fun _ => -1001) (fun S M h => by simp [NW_far, NW_isTongue_ok, NW_isNumber_ok, h1, h2, h3, bI]) (fun S M h0 h => by simp [Mod_far, Mod_isTongue_ok, Mod_isNumber_ok, h1, h2, h3, bI])
      | true =>
        obtain ⟨t, ht, rfl⟩ := inb_of h1 (by decide)
        obtain ⟨n, hn, rfl⟩ := inb_of h2 (by decide)
        obtain ⟨m, hm, rfl⟩ := inb_of h3 (by decide)
        refine mkGood (fun S => (if ((S.2.2.1 t).2 n).isSome = true ∧ ((S.2.2.1 t).2 m).isSome = true then nI (farN (S.2.2.1 t) n m) else -1, S)) (fun S M h => ?_) (fun S M h0 h => ?_)
        · have hT := h.2.2.2.2.2.1 t ht
          have hx := hT.2.2.2.1
          have st : NW_far F (nI t) (nI n) (nI m) M = if bI ((S.2.2.1 t).2 n).isSome = 0 then some (-1, M) else if bI ((S.2.2.1 t).2 m).isSome = 0 then some (-1, M) else (Ton_measureFrom F (14 + 10 * t) (nI n) M).bind fun (_, M_23) => (Ton_farFrom F (14 + 10 * t) (nI m) M_23).bind fun (r_25, M_26) => some (r_25, M_26) := by
            unfold NW_far
            rw [NW_isTongue_ok, h1, Option.bind_some]
            dsimp only
            rw [if_neg (by decide), NW_isNumber_ok, h2, Option.bind_some]
            dsimp only
            rw [if_neg (by decide), NW_isNumber_ok, h3, Option.bind_some]
            dsimp only
            rw [if_neg (by decide), if_pos rfl, tgA_n t ht, has_ok hT hn, Option.bind_some]
            dsimp only
            rw [has_ok hT hm, Option.bind_some]
          rw [st]
          cases c1 : ((S.2.2.1 t).2 n).isSome with
          | false => exact ⟨M, rfl, h, sameHi.rf⟩
          | true =>
            cases c2 : ((S.2.2.1 t).2 m).isSome with
            | false => exact ⟨M, rfl, h, sameHi.rf⟩
            | true =>
              obtain ⟨M1, e1, p1⟩ := measX (F := F) hx ht hn c1 hF
              have r1 := p1.f.rx h
              have e2 := farX (F := F) (okW_run ((hx n hn).at c1).1) p1 ((r1.2.2.2.2.2.1 t ht).2.2.2.1 m hm) ht hm c2 hF
              refine ⟨M1, ?_, r1, p1.f.hi⟩
              rw [if_neg (by decide), if_neg (by decide), e1, Option.bind_some]
              dsimp only
              rw [e2, Option.bind_some]
              rfl
        · have hT := (h.2.2.2.1 t ht).2
          have e1 : inb (nI (1000 * t + n)) 3000 = true := inb_nI (by omega) (by decide)
          have e2 : (nI (1000 * t + n)).toNatClampNeg = 1000 * t + n := nI_clamp (by omega)
          have e3 : inb (nI (1000 * t + m)) 3000 = true := inb_nI (by omega) (by decide)
          have e4 : (nI (1000 * t + m)).toNatClampNeg = 1000 * t + m := nI_clamp (by omega)
          have st : Mod_far F (nI t) (nI n) (nI m) M = if M.1 74 (1000 * t + n) < 0 then some (-1, M) else if 0 ≤ M.1 74 (1000 * t + m) then (Mod_farOf F (nI t) (nI n) (nI m) M).bind fun (r_17, M_18) => some (r_17, M_18) else some (-1, M) := by
            unfold Mod_far
            rw [Mod_isTongue_ok, h1, Option.bind_some]
            dsimp only
            rw [if_neg (by decide), Mod_isNumber_ok, h2, Option.bind_some]
            dsimp only
            rw [if_neg (by decide), Mod_isNumber_ok, h3, Option.bind_some]
            dsimp only
            rw [if_neg (by decide), ix_t, ix_t, if_pos e1, if_pos e3, e2, e4]
          have hlen : ∀ k, k < 1000 → ((S.2.2.1 t).2 k).isSome = true → (nmW (S.2.2.1 t) k).length < 2 ^ 31 := fun k hk sk => by
            obtain ⟨⟨w, b, d⟩, e⟩ := Option.isSome_iff_exists.mp sk
            have n1 : nmW (S.2.2.1 t) k = w := by unfold nmW; rw [e]
            rw [n1]
            have := (okT h0 ht k hk w b d e).1
            omega
          rw [st]
          cases c1 : ((S.2.2.1 t).2 n).isSome with
          | false =>
            have := hT n hn
            rw [isNn c1] at this
            rw [this.1]
            exact ⟨M, rfl, h, sameLo.rf⟩
          | true =>
            rw [((hT n hn).at c1).1, if_neg (nI_pos (hlen n hn c1))]
            cases c2 : ((S.2.2.1 t).2 m).isSome with
            | false =>
              have := hT m hm
              rw [isNn c2] at this
              rw [this.1]
              exact ⟨M, rfl, h, sameLo.rf⟩
            | true =>
              obtain ⟨M1, k1, k2⟩ := farM (F := F) hT (okT h0 ht) ht hn hm c1 c2 hF
              rw [((hT m hm).at c2).1, if_pos (ge0 (hlen m hm c2)), k1, Option.bind_some]
              exact ⟨M1, rfl, k2.rm h, k2.lo⟩

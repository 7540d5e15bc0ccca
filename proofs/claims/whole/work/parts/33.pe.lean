/-! find, led: both -/
theorem nth_loopP {body : Int32 × Int32 × zM → Option (Nat × (Int32 × Int32 × zM))} {p : Nat → Bool} {N F : Nat} {x : Int32} {P : zM → Prop} (hN : N ≤ 1000) (h0 : ∀ n s M, P M → n < N → p n = false → ∃ M1, P M1 ∧ body (s, nI n, M) = some (0, s, nI (n + 1), M1)) (h1 : ∀ n s M, P M → n < N → p n = true → s = x → ∃ y M1, P M1 ∧ body (s, nI n, M) = some (1, y, nI n, M1)) (h2 : ∀ n s M, P M → n < N → p n = true → ¬ s = x → ∃ M1, P M1 ∧ body (s, nI n, M) = some (0, s + 1, nI (n + 1), M1)) (h3 : ∀ s M, P M → body (s, nI N, M) = some (2, s, 0, M)) (hF : 3000 < F) {M : zM} (hM : P M) : ∃ q, loopN body F (0, 0, M) = some q ∧ ((∃ y n M1, P M1 ∧ q = (1, y, n, M1) ∧ n = nthI (flN p N) x ∧ inb x (flN p N).length = true) ∨ ∃ M1, P M1 ∧ q = (2, nI (flN p N).length, 0, M1) ∧ nthI (flN p N) x = -1) := by
  have hout : ∀ n, n ≤ N → (∀ i, i < (flN p n).length → ¬ x = nI i) → inb x (flN p n).length = false := fun n hn h => by
    cases q : inb x (flN p n).length with
    | false => rfl
    | true => obtain ⟨j, hj, e⟩ := inb_of q (by have := flN_len p n; omega); exact absurd e (h j hj)
  refine loopN_inv (body := body) (I := fun n s => ∃ M, P M ∧ s = (nI (flN p n).length, nI n, M) ∧ ∀ i, i < (flN p n).length → ¬ x = nI i) (Qx := fun q => (∃ y n M1, P M1 ∧ q = (1, y, n, M1) ∧ n = nthI (flN p N) x ∧ inb x (flN p N).length = true) ∨ ∃ M1, P M1 ∧ q = (2, nI (flN p N).length, 0, M1) ∧ nthI (flN p N) x = -1) (N := N) (F := F) (s := (0, 0, M)) (fun n s hn hs => ?_) (fun s hs => ?_) (by omega) ⟨M, hM, rfl, fun i hi => absurd hi (Nat.not_lt_zero i)⟩
  · obtain ⟨M, hM, rfl, hx⟩ := hs
    have hlen := flN_len p n
    cases hp : p n with
    | false =>
      obtain ⟨M1, hM1, e⟩ := h0 n _ M hM hn hp
      refine Or.inl ⟨_, e, ?_⟩
      rw [flN_s, if_neg (by rw [hp]; decide)]
      exact ⟨M1, hM1, rfl, hx⟩
    | true =>
      by_cases hc : nI (flN p n).length = x
      · obtain ⟨y, M1, hM1, hy⟩ := h1 n _ M hM hn hp hc
        have hat := flN_at p hn hp
        have hlt : (flN p n).length < (flN p N).length := (List.getElem?_eq_some_iff.mp hat).1
        have := flN_len p N
        have hin : inb x (flN p N).length = true := by rw [← hc]; exact inb_nI hlt (by omega)
        refine Or.inr ⟨_, hy, (fun q => by cases q), Or.inl ⟨y, _, M1, hM1, rfl, ?_, hin⟩⟩
        unfold nthI
        rw [← hc, if_pos (inb_nI hlt (by omega)), nI_clamp (by omega), List.getD_eq_getElem?_getD, hat]
        rfl
      · obtain ⟨M1, hM1, e⟩ := h2 n _ M hM hn hp hc
        refine Or.inl ⟨_, e, ?_⟩
        rw [flN_s, if_pos hp]
        refine ⟨M1, hM1, by rw [nI_1, List.length_append]; rfl, fun i hi => ?_⟩
        rw [List.length_append] at hi
        have hi' : i < (flN p n).length + 1 := hi
        rcases Nat.lt_or_ge i (flN p n).length with q | q
        · exact hx i q
        · rw [show i = (flN p n).length by omega]; exact fun e => hc e.symm
  · obtain ⟨M, hM, rfl, hx⟩ := hs
    refine ⟨_, h3 _ M hM, (fun q => by cases q), Or.inr ⟨M, hM, rfl, ?_⟩⟩
    unfold nthI
    rw [hout N (Nat.le_refl _) hx]
    rfl
theorem inb_m1 {n : Nat} (h : n < 2 ^ 31) : inb (-1) n = false := by
  cases q : inb (-1) n with
  | false => rfl
  | true => obtain ⟨j, hj, e⟩ := inb_of q h; exact absurd e.symm (nlen_ne (by omega))
def fndS (S : Sp) (t : Nat) (z x : Int32) : Int32 := if x = -1 then nI (flN (rdB (S.2.2.1 t) z (if z = 0 then S.2.2.2 else runW S.2.2.2)) 1000).length else nthI (flN (rdB (S.2.2.1 t) z (if z = 0 then S.2.2.2 else runW S.2.2.2)) 1000) x
theorem found_ok {F t : Nat} {S : Sp} {z x : Int32} {M : zM} (h0 : okS S) (h : RM S M) (ht : t < 3) (hF : 3000 < F) : ∃ M1, Mod_found F (nI t) z x M = some (fndS S t z x, M1) ∧ RM S M1 ∧ sameLo M M1 := by
  have key := nth_loopP (body := Mod_found_B6 F (nI t) z x) (p := rdB (S.2.2.1 t) z (if z = 0 then S.2.2.2 else runW S.2.2.2)) (N := 1000) (F := F) (x := x) (P := fun M1 => RM S M1 ∧ sameLo M M1) (by decide) (fun n s M1 hP hn hp => by
    obtain ⟨M2, e, r, l⟩ := isRead_ok (F := F) (z := z) h0 hP.1 ht hn hF
    refine ⟨M2, ⟨r, hP.2.tr l⟩, ?_⟩
    unfold Mod_found_B6
    dsimp only [lt]
    rw [if_neg (show ¬ (1000 : Int32) ≤ nI n from nI_ge (b := 1000) hn (by decide)), e, hp, Option.bind_some]
    dsimp only
    rw [if_pos (by decide), nI_1]) (fun n s M1 hP hn hp hs => by
    obtain ⟨M2, e, r, l⟩ := isRead_ok (F := F) (z := z) h0 hP.1 ht hn hF
    refine ⟨0, M2, ⟨r, hP.2.tr l⟩, ?_⟩
    unfold Mod_found_B6
    dsimp only [lt]
    rw [if_neg (show ¬ (1000 : Int32) ≤ nI n from nI_ge (b := 1000) hn (by decide)), e, hp, Option.bind_some]
    dsimp only
    rw [if_neg (by decide), if_pos hs]) (fun n s M1 hP hn hp hs => by
    obtain ⟨M2, e, r, l⟩ := isRead_ok (F := F) (z := z) h0 hP.1 ht hn hF
    refine ⟨M2, ⟨r, hP.2.tr l⟩, ?_⟩
    unfold Mod_found_B6
    dsimp only [lt]
    rw [if_neg (show ¬ (1000 : Int32) ≤ nI n from nI_ge (b := 1000) hn (by decide)), e, hp, Option.bind_some]
    dsimp only
    rw [if_neg (by decide), if_neg hs, nI_1]) (fun s M1 hP => by
    unfold Mod_found_B6
    exact if_pos (by decide)) hF (M := M) ⟨h, sameLo.rf⟩
  obtain ⟨q, e1, e2⟩ := key
  unfold Mod_found fndS
  rw [e1, Option.bind_some]
  have hl := flN_len (rdB (S.2.2.1 t) z (if z = 0 then S.2.2.2 else runW S.2.2.2)) 1000
  rcases e2 with ⟨y, n, M1, hP, rfl, e, hin⟩ | ⟨M1, hP, rfl, e⟩
  · refine ⟨M1, ?_, hP.1, hP.2⟩
    dsimp only
    rw [if_pos rfl, e, if_neg (show ¬ x = -1 from fun q => by rw [q, inb_m1 (by omega)] at hin; cases hin)]
  · refine ⟨M1, ?_, hP.1, hP.2⟩
    dsimp only
    rw [if_neg (by decide), if_pos rfl]
    by_cases c : x = -1
    · rw [if_pos c, if_pos c]
    · rw [if_neg c, if_neg c, e]
theorem findX_ok {F t b : Nat} {S : Sp} {u : List Nat} {z x : Int32} {M : zM} (h : RX S M) (ht : t < 3) (hb : b = 53 ∨ b = 55) (hl : XL b u M) (hu : u = if z = 0 then S.2.2.2 else runW S.2.2.2) (hF : 3000 < F) : ∃ M1, NW_find_J31 F (nI t) z x 57 0 b M = some (fndS S t z x, M1) ∧ RX S M1 ∧ sameHi M M1 := by
  obtain ⟨M1, e, r, s, k⟩ := key_ok (F := F) h hb hl hF
  have hT := r.2.2.2.2.2.1 t ht
  refine ⟨M1, ?_, r, s⟩
  unfold NW_find_J31 fndS
  rw [e, Option.bind_some]
  dsimp only
  rw [if_pos (inb_nI ht (by decide)), tgA_n t ht, readings_ok hT ht hl.1 k hF, Option.bind_some, if_pos (inb_nI ht (by decide)), reading_ok hT ht hl.1 k hF, Option.bind_some, hu]
  split <;> rfl
theorem ok_find {F : Nat} (hF : 3000 < F) (x y z : Int32) (hy : y = 0 ∨ y = 1) : Good (NW_find F x y z) (Mod_find F x y z) := by
  cases h1 : inb x 3 with
  | false => exact mkGood0 (fun _ => -1001) (fun S M h => by simp [NW_find, NW_isTongue_ok, h1, bI]) (fun S M h0 h => by simp [Mod_find, Mod_isTongue_ok, h1, bI])
  | true =>
    obtain ⟨t, ht, rfl⟩ := inb_of h1 (by decide)
    refine mkGood (fun S => (fndS S t y z, S)) (fun S M h => ?_) (fun S M h0 h => ?_)
    · unfold NW_find
      rw [NW_isTongue_ok, h1, Option.bind_some]
      dsimp only
      rw [if_neg (by decide)]
      by_cases c : y = 0
      · rw [if_pos c]
        exact findX_ok h ht (Or.inl rfl) h.2.2.2.2.2.2.1 (by rw [if_pos c]) hF
      · rw [if_neg c]
        exact findX_ok h ht (Or.inr rfl) h.2.2.2.2.2.2.2 (by rw [if_neg c]) hF
    · obtain ⟨M1, e, r, l⟩ := found_ok (F := F) (z := y) (x := z) h0 h ht hF
      refine ⟨M1, ?_, r, l⟩
      unfold Mod_find
      rw [Mod_isTongue_ok, h1, Option.bind_some]
      dsimp only
      rw [if_neg (by decide), e, Option.bind_some]
theorem nthI_cs (p : Nat → Bool) (x : Int32) : nthI (flN p 1000) x = -1 ∨ ∃ n, n < 1000 ∧ nthI (flN p 1000) x = nI n := by
  unfold nthI
  cases h : inb x (flN p 1000).length with
  | false => exact Or.inl rfl
  | true =>
    obtain ⟨j, hj, rfl⟩ := inb_of h (by have := flN_len p 1000; omega)
    refine Or.inr ⟨(flN p 1000).getD j 0, ?_, ?_⟩
    · have := getD_mem hj
      unfold flN at this
      rw [List.mem_filter, List.mem_range] at this
      exact this.1
    · rw [if_pos rfl, nI_clamp (by have := flN_len p 1000; omega)]
def ledS (S : Sp) (t s : Nat) (x : Int32) : Int32 := if fndS S t 0 0 < 0 then -1003 else if ((S.2.2.1 s).2 (fndS S t 0 0).toNatClampNeg).isSome = true then spName (S.2.2.1 s) (fndS S t 0 0).toNatClampNeg x else -1003
theorem ok_led {F : Nat} (hF : 3000 < F) (x y z : Int32) : Good (NW_led F x y z) (Mod_led F x y z) := by
  cases h1 : inb x 3 with
  | false => exact mkGood0 (fun _ => -1001) (fun S M h => by simp [NW_led, NW_isTongue_ok, h1, bI]) (fun S M h0 h => by simp [Mod_led, Mod_isTongue_ok, h1, bI])
  | true =>
    cases h2 : inb y 3 with
    | false => exact mkGood0 (fun _ => -1001) (fun S M h => by simp [NW_led, NW_isTongue_ok, h1, h2, bI]) (fun S M h0 h => by simp [Mod_led, Mod_isTongue_ok, h1, h2, bI])
    | true =>
      obtain ⟨t, ht, rfl⟩ := inb_of h1 (by decide)
      obtain ⟨s, hs, rfl⟩ := inb_of h2 (by decide)
      have hf0 : ∀ S, fndS S t 0 0 = nthI (flN (rdB (S.2.2.1 t) 0 S.2.2.2) 1000) 0 := fun S => by unfold fndS; rw [if_neg (by decide), if_pos rfl]
      refine mkGood (fun S => (ledS S t s z, S)) (fun S M h => ?_) (fun S M h0 h => ?_)
      · obtain ⟨M1, e, r, sm, k⟩ := key_ok (F := F) (b := 53) h (Or.inl rfl) h.2.2.2.2.2.2.1 hF
        have hT := r.2.2.2.2.2.1 t ht
        have hT2 := r.2.2.2.2.2.1 s hs
        refine ⟨M1, ?_, r, sm⟩
        unfold NW_led ledS
        rw [NW_isTongue_ok, h1, Option.bind_some]
        dsimp only
        rw [if_neg (by decide), NW_isTongue_ok, h2, Option.bind_some]
        dsimp only
        rw [if_neg (by decide), e, Option.bind_some]
        dsimp only
        rw [if_pos rfl, tgA_n t ht, reading_ok hT ht h.2.2.2.2.2.2.1.1 k hF, Option.bind_some, hf0]
        dsimp only
        have hcs := nthI_cs (rdB (S.2.2.1 t) 0 S.2.2.2) 0
        generalize nthI (flN (rdB (S.2.2.1 t) 0 S.2.2.2) 1000) 0 = rr at hcs ⊢
        rcases hcs with q | ⟨n, hn, q⟩
        · rw [q, if_pos rfl, if_pos (by decide)]
        · rw [q, if_neg (nlen_ne (by omega)), if_neg (nI_pos (by omega)), if_pos rfl, tgA_n s hs, has_ok hT2 hn, Option.bind_some, nI_clamp (by omega), sizeOrByte_ok hT2 hs hn, Option.bind_some]
          dsimp only
          cases ((S.2.2.1 s).2 n).isSome with
          | true => rw [if_neg (by decide), if_pos rfl]
          | false => rw [if_pos (by decide), if_neg (by decide)]
      · obtain ⟨M1, e, r, l⟩ := found_ok (F := F) (z := 0) (x := 0) h0 h ht hF
        refine ⟨M1, ?_, r, l⟩
        unfold Mod_led ledS
        rw [Mod_isTongue_ok, h1, Option.bind_some]
        dsimp only
        rw [if_neg (by decide), Mod_isTongue_ok, h2, Option.bind_some]
        dsimp only
        rw [if_neg (by decide), e, Option.bind_some, hf0]
        dsimp only [lt]
        have hcs := nthI_cs (rdB (S.2.2.1 t) 0 S.2.2.2) 0
        generalize nthI (flN (rdB (S.2.2.1 t) 0 S.2.2.2) 1000) 0 = rr at hcs ⊢
        rcases hcs with q | ⟨n, hn, q⟩
        · rw [q, if_pos (by decide), if_pos (by decide)]
        · have hmn := (r.2.2.2.1 s hs).2 n hn
          have key := Mod_name_in (F := F) (x := z) hmn (fun z hz => ((h0.2.2.1 s hs).2 n hn z.1 z.2.1 z.2.2 hz).1.1) hs hn
          have e1 : inb (nI (1000 * s + n)) 3000 = true := inb_nI (by omega) (by decide)
          have e2 : (nI (1000 * s + n)).toNatClampNeg = 1000 * s + n := nI_clamp (by omega)
          rw [q, if_neg (nI_pos (by omega)), if_neg (nI_pos (by omega)), ix_t, nI_clamp (n := n) (by omega), key]
          rw [if_pos e1, e2]
          unfold MN at hmn
          unfold spName
          cases eq : (S.2.2.1 s).2 n with
          | none => rw [eq] at hmn; rw [hmn.1, if_neg (by decide), if_neg (by simp)]
          | some w =>
            have := ((h0.2.2.1 s hs).2 n hn w.1 w.2.1 w.2.2 eq).1.1
            rw [eq] at hmn
            rw [hmn.1, if_pos (nI_pos' (by omega)), if_pos (by simp)]

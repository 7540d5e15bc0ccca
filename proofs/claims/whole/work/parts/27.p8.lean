/-! ===== rows that are walked through once ===== -/
def accI (f : Nat → Int32) (a : Nat) : Nat → Int32
  | 0 => 0
  | i + 1 => accI f a i + f (a + i)
theorem acc_loop {body : Int32 × Int32 × zM → Option (Nat × (Int32 × Int32 × zM))} {f : Nat → Int32} {a b F : Nat} {M : zM} (hab : a ≤ b) (hb : b < 1000) (h1 : ∀ n s, a ≤ n → n ≤ b → body (s, nI n, M) = some (0, s + f n, nI (n + 1), M)) (h2 : ∀ s, body (s, nI (b + 1), M) = some (1, s, 0, M)) (hF : 3000 < F) : loopN body F (0, nI a, M) = some (1, accI f a (b + 1 - a), 0, M) := by
  have key := loopN_seq (body := body) (b + 1 - a) (fun i => (accI f a i, nI (a + i), M)) (1, accI f a (b + 1 - a), 0, M) F (fun i hi => by
    show body (accI f a i, nI (a + i), M) = _
    rw [h1 (a + i) _ (by omega) (by omega)]
    rfl) (by
    show body (accI f a (b + 1 - a), nI (a + (b + 1 - a)), M) = _
    rw [show a + (b + 1 - a) = b + 1 by omega, h2]) (fun q => by cases q) (by omega)
  exact key
def ltrI (T : Tn) (n : Nat) : Int32 := match T.2 n with
  | none => 0
  | some q => nI (runW q.1).length
theorem ok_song {F : Nat} (hF : 3000 < F) (x y z : Int32) : Good (NW_song F x y z) (Mod_song F x y z) := by
  cases h1 : inb x 3 with
  | false => exact mkGood0 (fun _ => -1001) (fun S M h => by simp [NW_song, NW_isTongue_ok, h1, bI]) (fun S M h0 h => by simp [Mod_song, Mod_isTongue_ok, h1, bI])
  | true =>
    cases h2 : inb y 1000 with
    | false => exact mkGood0 (fun _ => -1001) (fun S M h => by simp [NW_song, NW_isTongue_ok, NW_isNumber_ok, h1, h2, bI]) (fun S M h0 h => by simp [Mod_song, Mod_isTongue_ok, Mod_isNumber_ok, h1, h2, bI])
    | true =>
      cases h3 : inb z 1000 with
      | false => exact mkGood0 (fun _ => -1001) (fun S M h => by simp [NW_song, NW_isTongue_ok, NW_isNumber_ok, h1, h2, h3, bI]) (fun S M h0 h => by simp [Mod_song, Mod_isTongue_ok, Mod_isNumber_ok, h1, h2, h3, bI])
      | true =>
        by_cases c : y ≤ z
        · obtain ⟨t, ht, rfl⟩ := inb_of h1 (by decide)
          obtain ⟨a, ha, rfl⟩ := inb_of h2 (by decide)
          obtain ⟨b, hb, rfl⟩ := inb_of h3 (by decide)
          have hab : a ≤ b := (nI_leI (by omega) (by omega)).mp c
          refine mkGood0 (fun S => accI (ltrI (S.2.2.1 t)) a (b + 1 - a)) (fun S M h => ?_) (fun S M h0 h => ?_)
          · have hT := h.2.2.2.2.2.1 t ht
            have key := acc_loop (body := NW_song_B40 F (nI t) (nI b)) (f := ltrI (S.2.2.1 t)) (M := M) hab hb (fun n s h4 h5 => by
              unfold NW_song_B40
              dsimp only [lt]
              rw [if_neg (nI_nlt h5 (by omega)), if_pos h1, tgA_n t ht, (get5 (F := F) hT (by omega)).2.1, Option.bind_some]
              dsimp only
              rw [nI_1]
              congr 4
              unfold ltrI nmI onm
              cases e : (S.2.2.1 t).2 n with
              | none => rfl
              | some q =>
                have hx := hT.2.2.2.1 n (by omega)
                unfold XN at hx
                obtain ⟨w, b', d'⟩ := q
                rw [e] at hx
                have := hx.1.1
                have := runW_len w
                unfold jmx
                by_cases c0 : (0 : Int32) < nI (runW w).length
                · exact if_pos c0
                · rw [if_neg c0]
                  have : (runW w).length = 0 := by
                    rcases Nat.eq_zero_or_pos (runW w).length with q | q
                    · exact q
                    · exact absurd (nI_lt (a := 0) q (by omega)) c0
                  show (0 : Int32) = nI (runW w).length
                  rw [this]; rfl) (fun s => if_pos (nI_lt (by omega) (by omega))) hF
            simp only [NW_song, NW_isTongue_ok, NW_isNumber_ok, h1, h2, h3, bI, if_true, Option.bind_some]
            rw [if_neg (by decide), if_neg (by decide), if_neg (by decide), if_pos c, key, Option.bind_some]
            rfl
          · have key := acc_loop (body := Mod_song_B40 F (nI t) (nI b)) (f := ltrI (S.2.2.1 t)) (M := M) hab hb (fun n s h4 h5 => by
              have e1 : inb (nI (1000 * t + n)) 3000 = true := inb_nI (by omega) (by decide)
              have e2 : (nI (1000 * t + n)).toNatClampNeg = 1000 * t + n := nI_clamp (by omega)
              have hm := (h.2.2.2.1 t ht).2 n (by omega)
              unfold Mod_song_B40
              dsimp only [lt]
              rw [if_neg (nI_nlt h5 (by omega)), ix_t, if_pos e1, e2, nI_1]
              unfold ltrI
              unfold MN at hm
              cases e : (S.2.2.1 t).2 n with
              | none =>
                rw [e] at hm
                rw [hm.1]
                exact if_neg (by decide)
              | some q =>
                obtain ⟨w, b', d'⟩ := q
                rw [e] at hm
                have := ((h0.2.2.1 t ht).2 n (by omega) w b' d' e).1.1
                rw [hm.1, hm.2.2.2.1]
                exact if_pos (nI_pos' (by omega))) (fun s => if_pos (nI_lt (by omega) (by omega))) hF
            simp only [Mod_song, Mod_isTongue_ok, Mod_isNumber_ok, h1, h2, h3, bI, if_true, Option.bind_some]
            rw [if_neg (by decide), if_neg (by decide), if_neg (by decide), if_pos c, key, Option.bind_some]
            rfl
        · exact mkGood0 (fun _ => -1002) (fun S M h => by simp [NW_song, NW_isTongue_ok, NW_isNumber_ok, h1, h2, h3, bI, c]) (fun S M h0 h => by simp [Mod_song, Mod_isTongue_ok, Mod_isNumber_ok, h1, h2, h3, bI, c])
/-! the i-th of those that pass a test -/
def flN (p : Nat → Bool) (n : Nat) : List Nat := (List.range n).filter p
theorem flN_s (p : Nat → Bool) (n : Nat) : flN p (n + 1) = if p n = true then flN p n ++ [n] else flN p n := by
  unfold flN
  rw [List.range_succ, List.filter_append]
  by_cases h : p n = true
  · simp [h]
  · simp [h]
theorem flN_len (p : Nat → Bool) (n : Nat) : (flN p n).length ≤ n := by
  unfold flN
  have := List.length_filter_le p (List.range n)
  rw [List.length_range] at this
  exact this
theorem flN_pre (p : Nat → Bool) (n N : Nat) (h : n ≤ N) : ∃ r, flN p N = flN p n ++ r := by
  induction N with
  | zero => exact ⟨[], by rw [show n = 0 by omega, List.append_nil]⟩
  | succ N ih =>
    rcases Nat.lt_or_ge n (N + 1) with q | q
    · obtain ⟨r, hr⟩ := ih (by omega)
      rw [flN_s]
      by_cases hp : p N = true
      · rw [if_pos hp, hr]; exact ⟨r ++ [N], List.append_assoc _ _ _⟩
      · rw [if_neg hp, hr]; exact ⟨r, rfl⟩
    · exact ⟨[], by rw [show n = N + 1 by omega, List.append_nil]⟩
theorem flN_at (p : Nat → Bool) {n N : Nat} (h : n < N) (hp : p n = true) : (flN p N)[(flN p n).length]? = some n := by
  obtain ⟨r, hr⟩ := flN_pre p (n + 1) N h
  rw [hr, flN_s, if_pos hp, List.append_assoc, List.getElem?_append_right (Nat.le_refl _), Nat.sub_self]
  rfl
/-- the x-th of a list, or NONE -/
def nthI (l : List Nat) (x : Int32) : Int32 := if inb x l.length = true then nI (l.getD x.toNatClampNeg 0) else -1
theorem nth_loop {body : Int32 × Int32 × zM → Option (Nat × (Int32 × Int32 × zM))} {p : Nat → Bool} {N F : Nat} {x : Int32} {M : zM} (hN : N ≤ 1000) (h0 : ∀ n s, n < N → p n = false → body (s, nI n, M) = some (0, s, nI (n + 1), M)) (h1 : ∀ n s, n < N → p n = true → s = x → ∃ y, body (s, nI n, M) = some (1, y, nI n, M)) (h2 : ∀ n s, n < N → p n = true → ¬ s = x → body (s, nI n, M) = some (0, s + 1, nI (n + 1), M)) (h3 : ∀ s, ∃ y y', body (s, nI N, M) = some (2, y, y', M)) (hF : 3000 < F) : ∃ q, loopN body F (0, 0, M) = some q ∧ ((∃ y n, q = (1, y, n, M) ∧ n = nthI (flN p N) x) ∨ ∃ y y', q = (2, y, y', M) ∧ nthI (flN p N) x = -1) := by
  have hout : ∀ n, n ≤ N → (∀ i, i < (flN p n).length → ¬ x = nI i) → inb x (flN p n).length = false := fun n hn h => by
    cases q : inb x (flN p n).length with
    | false => rfl
    | true => obtain ⟨j, hj, e⟩ := inb_of q (by have := flN_len p n; omega); exact absurd e (h j hj)
  refine loopN_inv (body := body) (I := fun n s => s = (nI (flN p n).length, nI n, M) ∧ ∀ i, i < (flN p n).length → ¬ x = nI i) (Qx := fun q => (∃ y n, q = (1, y, n, M) ∧ n = nthI (flN p N) x) ∨ ∃ y y', q = (2, y, y', M) ∧ nthI (flN p N) x = -1) (N := N) (F := F) (s := (0, 0, M)) (fun n s hn hs => ?_) (fun s hs => ?_) (by omega) ⟨rfl, fun i hi => absurd hi (Nat.not_lt_zero i)⟩
  · obtain ⟨rfl, hx⟩ := hs
    have hlen := flN_len p n
    cases hp : p n with
    | false =>
      refine Or.inl ⟨_, h0 n _ hn hp, ?_⟩
      rw [flN_s, if_neg (by rw [hp]; decide)]
      exact ⟨rfl, hx⟩
    | true =>
      by_cases hc : nI (flN p n).length = x
      · obtain ⟨y, hy⟩ := h1 n _ hn hp hc
        refine Or.inr ⟨_, hy, (fun q => by cases q), Or.inl ⟨y, _, rfl, ?_⟩⟩
        have hat := flN_at p hn hp
        have hlt : (flN p n).length < (flN p N).length := (List.getElem?_eq_some_iff.mp hat).1
        have := flN_len p N
        unfold nthI
        rw [← hc, if_pos (inb_nI hlt (by omega)), nI_clamp (by omega), List.getD_eq_getElem?_getD, hat]
        rfl
      · refine Or.inl ⟨_, h2 n _ hn hp hc, ?_⟩
        rw [flN_s, if_pos hp]
        refine ⟨by rw [nI_1, List.length_append]; rfl, fun i hi => ?_⟩
        rw [List.length_append] at hi
        have hi' : i < (flN p n).length + 1 := hi
        rcases Nat.lt_or_ge i (flN p n).length with q | q
        · exact hx i q
        · rw [show i = (flN p n).length by omega]; exact fun e => hc e.symm
  · obtain ⟨rfl, hx⟩ := hs
    obtain ⟨y, y', hy⟩ := h3 (nI (flN p N).length)
    refine ⟨_, hy, (fun q => by cases q), Or.inr ⟨y, y', rfl, ?_⟩⟩
    unfold nthI
    rw [hout N (Nat.le_refl _) hx]
    rfl
/-! honest -/
def hon (T : Tn) (n : Nat) : Bool := match T.2 n with
  | none => false
  | some q => decide ((runW q.1).length = n)
theorem isHonest_ok {F a n : Nat} {T : Tn} {M : zM} (h : XT a T M) (hn : n < 1000) : Ton_isHonest F a (nI n) M = some (bI (hon T n), M) := by
  unfold Ton_isHonest
  rw [has_ok h hn, Option.bind_some]
  dsimp only
  have hx := h.2.2.2.1 n hn
  unfold hon
  unfold XN at hx
  cases e : T.2 n with
  | none => rfl
  | some q =>
    obtain ⟨w, b, d⟩ := q
    rw [e] at hx
    obtain ⟨ok, -, -, -, -, h6, -⟩ := hx
    have := runW_len w
    have := ok.1
    rw [if_neg (show ¬ bI (some (w, b, d)).isSome = 0 from fun q => absurd (show (1 : Int32) = 0 from q) (by decide)), if_pos (inb_nI hn (by decide)), nI_clamp (by omega), h6]
    by_cases c : (runW w).length = n
    · rw [if_pos (by rw [c])]
      simp [c, bI]
    · rw [if_neg (fun q => c ((nI_eq (by omega) (by omega)).mp q))]
      simp [c, bI]
theorem hon_61 {T : Tn} (h : ∀ n, n < 1000 → ∀ w b d, T.2 n = some (w, b, d) → w.length ≤ 60) : flN (hon T) 1000 = flN (hon T) 61 := by
  have key : ∀ k, k ≤ 939 → flN (hon T) (61 + k) = flN (hon T) 61 := by
    intro k
    induction k with
    | zero => intro _; rfl
    | succ k ih =>
      intro hk
      rw [show 61 + (k + 1) = (61 + k) + 1 by omega, flN_s, ih (by omega)]
      refine if_neg ?_
      unfold hon
      cases e : T.2 (61 + k) with
      | none => simp
      | some q =>
        obtain ⟨w, b, d⟩ := q
        have h1 := h _ (by omega) w b d e
        have h2 := runW_len w
        simp
        omega
  exact key 939 (Nat.le_refl _)
theorem XT.len {a : Nat} {T : Tn} {M : zM} (h : XT a T M) : ∀ n, n < 1000 → ∀ w b d, T.2 n = some (w, b, d) → w.length ≤ 60 := fun n hn w b d e => by
  have hx := h.2.2.2.1 n hn
  unfold XN at hx
  rw [e] at hx
  exact hx.1.1
theorem hon_onm {T : Tn} {n : Nat} (hn : n < 1000) (h : ∀ w b d, T.2 n = some (w, b, d) → w.length ≤ 60) : onm (T.2 n) (fun z => nI (runW z.1).length) = nI n ↔ hon T n = true := by
  unfold onm hon
  cases e : T.2 n with
  | none =>
    simp
    exact fun q => nlen_ne (k := n) (by omega) q.symm
  | some q =>
    obtain ⟨w, b, d⟩ := q
    have h1 := h w b d e
    have h2 := runW_len w
    simp
    exact nI_eq (by omega) (by omega)
theorem ok_honest {F : Nat} (hF : 3000 < F) (x y : Int32) : Good (NW_honest F x y) (Mod_honest F x y) := by
  cases h1 : inb x 3 with
  | false => exact mkGood0 (fun _ => -1001) (fun S M h => by simp [NW_honest, NW_isTongue_ok, h1, bI]) (fun S M h0 h => by simp [Mod_honest, Mod_isTongue_ok, h1, bI])
  | true =>
    obtain ⟨t, ht, rfl⟩ := inb_of h1 (by decide)
    refine mkGood0 (fun S => nthI (flN (hon (S.2.2.1 t)) 1000) y) (fun S M h => ?_) (fun S M h0 h => ?_)
    · have hT := h.2.2.2.2.2.1 t ht
      rw [hon_61 hT.len]
      have key := nth_loop (body := Ton_honestAt_B4 F (14 + 10 * t) y) (p := hon (S.2.2.1 t)) (N := 61) (F := F) (x := y) (M := M) (by decide) (fun n s hn hp => by
        unfold Ton_honestAt_B4
        dsimp only [lt]
        rw [if_neg (show ¬ (60 : Int32) < nI n from nI_nlt (a := 60) (by omega) (by decide)), isHonest_ok hT (by omega), hp, Option.bind_some]
        dsimp only
        rw [if_pos (by decide), nI_1]) (fun n s hn hp hs => by
        unfold Ton_honestAt_B4
        dsimp only [lt]
        rw [if_neg (show ¬ (60 : Int32) < nI n from nI_nlt (a := 60) (by omega) (by decide)), isHonest_ok hT (by omega), hp, Option.bind_some]
        dsimp only
        rw [if_neg (by decide), if_pos hs]
        exact ⟨_, rfl⟩) (fun n s hn hp hs => by
        unfold Ton_honestAt_B4
        dsimp only [lt]
        rw [if_neg (show ¬ (60 : Int32) < nI n from nI_nlt (a := 60) (by omega) (by decide)), isHonest_ok hT (by omega), hp, Option.bind_some]
        dsimp only
        rw [if_neg (by decide), if_neg hs, nI_1]) (fun s => ⟨0, 0, by unfold Ton_honestAt_B4; exact if_pos (by decide)⟩) hF
      obtain ⟨q, e1, e2⟩ := key
      simp only [NW_honest, NW_isTongue_ok, h1, bI, if_true, Option.bind_some]
      rw [if_neg (by decide), tgA_n t ht]
      unfold Ton_honestAt
      rw [e1, Option.bind_some]
      rcases e2 with ⟨a, n, rfl, rfl⟩ | ⟨a, a', rfl, hn⟩
      · rfl
      · rw [hn]; rfl
    · have hlen : ∀ n, n < 1000 → ∀ w b d, (S.2.2.1 t).2 n = some (w, b, d) → w.length ≤ 60 := fun n hn w b d e => ((h0.2.2.1 t ht).2 n hn w b d e).1.1
      have hlet : ∀ n, n < 1000 → Mod_lettersOf F (nI t) (nI n) M = some (onm ((S.2.2.1 t).2 n) (fun z => nI (runW z.1).length), M) := fun n hn => Mod_lettersOf_ok ((h.2.2.2.1 t ht).2 n hn) (fun z hz => hlen n hn z.1 z.2.1 z.2.2 hz) ht hn
      have key := nth_loop (body := Mod_honest_B16 F (nI t) y) (p := hon (S.2.2.1 t)) (N := 1000) (F := F) (x := y) (M := M) (by decide) (fun n s hn hp => by
        unfold Mod_honest_B16
        dsimp only [lt]
        rw [if_neg (show ¬ (1000 : Int32) ≤ nI n from nI_ge (b := 1000) hn (by decide)), hlet n hn, Option.bind_some]
        dsimp only
        rw [if_neg (fun q => by rw [(hon_onm hn (hlen n hn)).mp q] at hp; cases hp), nI_1]) (fun n s hn hp hs => by
        unfold Mod_honest_B16
        dsimp only [lt]
        rw [if_neg (show ¬ (1000 : Int32) ≤ nI n from nI_ge (b := 1000) hn (by decide)), hlet n hn, Option.bind_some]
        dsimp only
        rw [if_pos ((hon_onm hn (hlen n hn)).mpr hp), if_pos hs]
        exact ⟨_, rfl⟩) (fun n s hn hp hs => by
        unfold Mod_honest_B16
        dsimp only [lt]
        rw [if_neg (show ¬ (1000 : Int32) ≤ nI n from nI_ge (b := 1000) hn (by decide)), hlet n hn, Option.bind_some]
        dsimp only
        rw [if_pos ((hon_onm hn (hlen n hn)).mpr hp), if_neg hs, nI_1]) (fun s => ⟨0, 0, by unfold Mod_honest_B16; exact if_pos (by decide)⟩) hF
      obtain ⟨q, e1, e2⟩ := key
      simp only [Mod_honest, Mod_isTongue_ok, h1, bI, if_true, Option.bind_some]
      rw [if_neg (by decide), e1, Option.bind_some]
      rcases e2 with ⟨a, n, rfl, rfl⟩ | ⟨a, a', rfl, hn⟩
      · rfl
      · rw [hn]; rfl

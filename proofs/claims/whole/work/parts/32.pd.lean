/-! find, led -/
theorem eq_loop {body : Int32 × Int32 × zM → Option (Nat × (Int32 × Int32 × zM))} {v u : List Nat} {F : Nat} {M : zM} (hl : v.length = u.length) (h60 : u.length ≤ 60) (hb : ∀ i, i < u.length → body (1, nI i, M) = if v.getD i 0 = u.getD i 0 then some (0, 1, nI (i + 1), M) else some (0, 0, nI (i + 1), M)) (h0 : ∀ i, body (0, nI i, M) = some (1, 0, 0, M)) (he : body (1, nI u.length, M) = some (1, 1, 0, M)) (hF : 3000 < F) : loopN body F (1, 0, M) = some (1, bI (decide (v = u)), 0, M) := by
  have key := loopN_inv (body := body) (I := fun i s => (s = (1, nI i, M) ∧ v.take i = u.take i) ∨ (s = (0, nI i, M) ∧ v ≠ u)) (Qx := fun q => q = (1, bI (decide (v = u)), 0, M)) (N := u.length) (F := F) (s := (1, 0, M)) (fun i s hi hs => by
    rcases hs with ⟨rfl, hs⟩ | ⟨rfl, hs⟩
    · refine Or.inl ?_
      rw [hb i hi]
      by_cases c : v.getD i 0 = u.getD i 0
      · rw [if_pos c]
        exact ⟨_, rfl, Or.inl ⟨rfl, by rw [take_s (by omega), take_s hi, hs, c]⟩⟩
      · rw [if_neg c]
        exact ⟨_, rfl, Or.inr ⟨rfl, fun q => c (by rw [q])⟩⟩
    · refine Or.inr ⟨_, h0 i, (fun q => by cases q), ?_⟩
      rw [decide_eq_false hs]; rfl) (fun s hs => by
    rcases hs with ⟨rfl, hs⟩ | ⟨rfl, hs⟩
    · refine ⟨_, he, (fun q => by cases q), ?_⟩
      rw [List.take_length, ← hl, List.take_length] at hs
      rw [decide_eq_true hs]; rfl
    · refine ⟨_, h0 _, (fun q => by cases q), ?_⟩
      rw [decide_eq_false hs]; rfl) (by omega) (Or.inl ⟨rfl, by rw [List.take_zero, List.take_zero]⟩)
  obtain ⟨q, e, rfl⟩ := key
  exact e
theorem copyA.rm {S : Sp} {M M1 : zM} {a : Nat} {v : List Nat} (h : copyA M M1 a v) (hr : RM S M) (ha : a = 92 ∨ a = 93) : RM S M1 := hr.keep (fun b h1 h2 => ⟨h.1 b (by omega), by rw [h.2.1]⟩)
theorem copyA.lo {M M1 : zM} {a : Nat} {v : List Nat} (h : copyA M M1 a v) (ha : a = 92 ∨ a = 93) : sameLo M M1 := fun b hb => ⟨h.1 b (by omega), by rw [h.2.1]⟩
theorem isRead_ok {F t n : Nat} {S : Sp} {z : Int32} {M : zM} (h0 : okS S) (h : RM S M) (ht : t < 3) (hn : n < 1000) (hF : 3000 < F) : ∃ M1, Mod_isRead F (nI t) (nI n) z M = some (bI (rdB (S.2.2.1 t) z (if z = 0 then S.2.2.2 else runW S.2.2.2) n), M1) ∧ RM S M1 ∧ sameLo M M1 := by
  have e1 : inb (nI (1000 * t + n)) 3000 = true := inb_nI (by omega) (by decide)
  have e2 : (nI (1000 * t + n)).toNatClampNeg = 1000 * t + n := nI_clamp (by omega)
  have hmn := (h.2.2.2.1 t ht).2 n hn
  have hok : ∀ z, (S.2.2.1 t).2 n = some z → okW z.1 := fun z hz => ((h0.2.2.1 t ht).2 n hn z.1 z.2.1 z.2.2 hz).1
  have okd : okW S.2.2.2 := h0.2.2.2
  have okd1 := okd.1
  have j0 : ∀ (x4 : Int32) (M : zM), Mod_isRead_J142 F x4 M = some (0, M) := fun x4 M => by
    have key := loopN_seq (body := Mod_isRead_B148 F x4) 0 (fun _ => (0, 0, M)) (1, 0, 0, M) F (fun i hi => by omega) (by
      unfold Mod_isRead_B148
      dsimp only
      split <;> rfl) (fun q => by cases q) (by omega)
    have key : loopN (Mod_isRead_B148 F x4) F (0, 0, M) = _ := key
    unfold Mod_isRead_J142 Mod_isRead_J143
    rw [key]; rfl
  have j1 : ∀ (x4 : Int32) (M : zM), Mod_isRead_J68 F x4 M = some (0, M) := fun x4 M => by
    have key := loopN_seq (body := Mod_isRead_B74 F x4) 0 (fun _ => (0, 0, M)) (1, 0, 0, M) F (fun i hi => by omega) (by
      unfold Mod_isRead_B74
      dsimp only
      split <;> rfl) (fun q => by cases q) (by omega)
    have key : loopN (Mod_isRead_B74 F x4) F (0, 0, M) = _ := key
    unfold Mod_isRead_J68 Mod_isRead_J69
    rw [key]; rfl
  obtain ⟨M1, r1, c1⟩ := runOf_ok (F := F) (a := 92) hmn hok ht hn (Or.inl rfl) hF
  have hr1 := c1.rm h (Or.inl rfl)
  obtain ⟨M2, r2, c2⟩ := draftRun_ok (F := F) (a := 93) h0 hr1 (Or.inr rfl) hF
  have hr2 := c2.rm hr1 (Or.inr rfl)
  have lo2 := (c1.lo (Or.inl rfl)).tr (c2.lo (Or.inr rfl))
  unfold Mod_isRead
  dsimp only [lt]
  rw [ix_t, if_pos e1, e2]
  unfold Mod_isRead_J24 rdB
  unfold MN at hmn
  cases e : (S.2.2.1 t).2 n with
  | none =>
    rw [e] at hmn
    rw [hmn.1, if_pos (by decide)]
    by_cases cz : z = 0
    · rw [if_pos cz, if_pos rfl, j0]
      exact ⟨M, rfl, h, sameLo.rf⟩
    · rw [if_neg cz, r1, Option.bind_some]
      dsimp only
      rw [r2, Option.bind_some]
      dsimp only
      rw [if_pos rfl, j1]
      exact ⟨M2, rfl, hr2, lo2⟩
  | some q =>
    obtain ⟨w, b, d⟩ := q
    have ok : okW w := hok _ e
    have ok1 := ok.1
    rw [e] at hmn r1 c1
    obtain ⟨g1, -, -, -, g5⟩ := hmn
    rw [g1, if_neg (nI_pos (by omega))]
    have g1 : M.1 74 (1000 * t + n) = nI w.length := g1
    by_cases cz : z = 0
    · rw [if_pos cz, if_neg (by decide), if_pos e1, e2, h.2.2.2.2.1, if_pos cz]
      refine ⟨M, ?_, h, sameLo.rf⟩
      dsimp only
      rw [if_pos cz, g1]
      by_cases cl : w.length = S.2.2.2.length
      · rw [if_pos (by rw [cl])]
        have key := eq_loop (body := Mod_isRead_B148 F (nI (1000 * t + n))) (v := w) (u := S.2.2.2) (F := F) (M := M) cl okd1 (fun i hi => by
          have m1 := isLt_32 (ok.2 _ (getD_mem (show i < w.length by omega)))
          have m2 := isLt_32 (okd.2 _ (getD_mem hi))
          have g5 : mB M (1000 * t + n) i = nI (w.getD i 0) := g5 i (show i < w.length by omega)
          unfold Mod_isRead_B148
          dsimp only [lt]
          rw [h.2.2.2.2.1, if_neg (nI_ge hi (by omega)), if_neg (by decide), Mod_byteOf_ok (by omega) (by omega), g5, Option.bind_some]
          dsimp only
          rw [if_pos (inb_nI (by omega) (by decide)), nI_clamp (by omega), h.2.2.2.2.2.1 i hi, nI_1]
          by_cases c : w.getD i 0 = S.2.2.2.getD i 0
          · rw [if_pos c, if_pos (by rw [c])]
          · rw [if_neg c, if_neg (fun q => c ((nI_eq (by omega) (by omega)).mp q))]) (fun i => by
          unfold Mod_isRead_B148
          dsimp only
          split <;> rfl) (by
          unfold Mod_isRead_B148
          dsimp only
          rw [h.2.2.2.2.1, if_pos (nI_le (Nat.le_refl _) (by omega))]) hF
        unfold Mod_isRead_J143
        rw [key, Option.bind_some]
        dsimp only
        rw [if_pos rfl, bI_and, if_pos rfl]
      · rw [if_neg (fun q => cl ((nI_eq (by omega) (by omega)).mp q)), j0, decide_eq_false (fun q => cl (by rw [q]))]
        rfl
    · rw [if_neg cz, r1, Option.bind_some]
      dsimp only
      rw [r2, Option.bind_some]
      dsimp only
      rw [if_neg (by decide), if_neg cz, if_neg cz]
      refine ⟨M2, ?_, hr2, lo2⟩
      have l1 := runW_len w
      have l2 := runW_len S.2.2.2
      have er : rnO (some (w, b, d)) = runW w := rfl
      rw [er] at c1 ⊢
      by_cases cl : (runW w).length = (runW S.2.2.2).length
      · rw [if_pos (by rw [cl])]
        have key := eq_loop (body := Mod_isRead_B74 F (nI (runW w).length)) (v := runW w) (u := runW S.2.2.2) (F := F) (M := M2) cl (by omega) (fun i hi => by
          have m1 := isLt_32 (runW_lt ok.2 _ (getD_mem (show i < (runW w).length by omega)))
          have m2 := isLt_32 (runW_lt okd.2 _ (getD_mem hi))
          unfold Mod_isRead_B74
          dsimp only [lt]
          rw [if_neg (nI_ge (by omega) (by omega)), if_neg (by decide), if_pos (inb_nI (by omega) (by decide)), nI_clamp (by omega), c2.1 92 (by decide), c1.2.2 i (by omega), c2.2.2 i hi, nI_1]
          by_cases c : (runW w).getD i 0 = (runW S.2.2.2).getD i 0
          · rw [if_pos c, if_pos (by rw [c])]
          · rw [if_neg c, if_neg (fun q => c ((nI_eq (by omega) (by omega)).mp q))]) (fun i => by
          unfold Mod_isRead_B74
          dsimp only
          split <;> rfl) (by
          unfold Mod_isRead_B74
          dsimp only
          rw [if_pos (nI_le (by omega) (by omega))]) hF
        unfold Mod_isRead_J69
        rw [key, Option.bind_some]
        dsimp only
        rw [if_pos rfl, bI_and, if_pos rfl]
      · rw [if_neg (fun q => cl ((nI_eq (by omega) (by omega)).mp q)), j1, decide_eq_false (fun q => cl (by rw [q]))]
        rfl

/-! find, led: the class's side -/
def zPut (M : zM) (c k : Nat) (g : Nat → Int64) : Nat → zM
  | 0 => M
  | i + 1 => zL (zPut M c k g i) c (k + i) (g i)
theorem zPut_1 {M : zM} {c k : Nat} {g : Nat → Int64} : ∀ i, (zPut M c k g i).1 = M.1 := by
  intro i
  induction i with
  | zero => rfl
  | succ i ih => exact ih
theorem zPut_o {M : zM} {c k b : Nat} {g : Nat → Int64} (h : b ≠ c) : ∀ i, (zPut M c k g i).2 b = M.2 b := by
  intro i
  induction i with
  | zero => rfl
  | succ i ih => exact (zL_other h).trans ih
theorem zPut_v {M : zM} {c k : Nat} {g : Nat → Int64} : ∀ i j, j < i → (zPut M c k g i).2 c (k + j) = g j := by
  intro i
  induction i with
  | zero => intro j hj; omega
  | succ i ih =>
    intro j hj
    show (zL (zPut M c k g i) c (k + i) (g i)).2 c (k + j) = g j
    by_cases e : j = i
    · rw [e, zL_in]
    · rw [zL_ne (Or.inr (by omega))]; exact ih j (by omega)
theorem zPut_w {M : zM} {c k l : Nat} {g : Nat → Int64} : ∀ i, (l < k ∨ k + i ≤ l) → (zPut M c k g i).2 c l = M.2 c l := by
  intro i
  induction i with
  | zero => intro _; rfl
  | succ i ih =>
    intro h
    show (zL (zPut M c k g i) c (k + i) (g i)).2 c l = _
    rw [zL_ne (Or.inr (by omega))]; exact ih (by omega)
theorem sput_ok {F a n b : Nat} {M : zM} (hN : 5 * n + 5 ≤ zN (a + 1)) (hN2 : zN (a + 1) < 2 ^ 31) (hab : b ≠ a) (hF : 3000 < F) : Spe_put F a (nI n) b M = some ((), zPut M (a + 1) (5 * n) (fun i => M.2 (b + 1) i) 5) := by
  have e5 : nI n * 5 = nI (5 * n) := by rw [show (5 : Int32) = nI 5 from rfl, pk_mul, Nat.mul_comm]
  have key := loopN_seq (body := Spe_put_B7 F a b (nI (5 * n))) 5 (fun i => (nI i, zPut M (a + 1) (5 * n) (fun i => M.2 (b + 1) i) i)) (1, 0, zPut M (a + 1) (5 * n) (fun i => M.2 (b + 1) i) 5) F (fun i hi => by
    have ls : ∀ M' : zM, Lin_signs F b (nI i) M' = some (M'.2 (b + 1) i, M') := fun M' => by
      unfold Lin_signs
      rw [if_neg (nI_pos (by omega)), if_neg (show ¬ (5 : Int32) ≤ nI i from nI_ge (b := 5) hi (by decide)), if_pos (inb_nI hi (by decide)), nI_clamp (by omega)]
    unfold Spe_put_B7
    dsimp only [lt]
    rw [if_neg (show ¬ (5 : Int32) ≤ nI i from nI_ge (b := 5) hi (by decide)), if_neg (nI_pos (by omega)), nI_add, if_neg (show ¬ Int32.ofNat (zN (a + 1)) ≤ nI (5 * n + i) from nI_ge (by omega) hN2), ls, Option.bind_some]
    dsimp only
    rw [if_pos (inb_nI (by omega) hN2), nI_clamp (by omega), nI_1, zPut_o (by omega)]
    rfl) (by
    unfold Spe_put_B7
    exact if_pos (by decide)) (fun q => by cases q) (by omega)
  unfold Spe_put
  dsimp only [lt]
  rw [e5]
  have key : loopN (Spe_put_B7 F a b (nI (5 * n))) F (0, M) = _ := key
  rw [key, Option.bind_some]
  rfl
theorem RX.keep {S : Sp} {M M' : zM} (h : RX S M) (hs : ∀ b, b < 57 → (b < 44 ∨ 53 ≤ b) → M'.1 b = M.1 b ∧ M'.2 b = M.2 b) : RX S M' := by
  obtain ⟨h1, h2, h3, h4, h5, h6, h7, h8⟩ := h
  refine ⟨h1, h2, by rw [(hs 1 (by decide) (by decide)).1]; exact h3, by rw [(hs 2 (by decide) (by decide)).1]; exact h4, by rw [(hs 12 (by decide) (by decide)).1]; exact h5, fun t ht => (h6 t ht).same (fun b h1 h2 => hs b (by omega) (by omega)), h7.same (hs 53 (by decide) (by decide)).1 (hs 54 (by decide) (by decide)).2, h8.same (hs 55 (by decide) (by decide)).1 (hs 56 (by decide) (by decide)).2⟩
def rdB (T : Tn) (z : Int32) (u : List Nat) (n : Nat) : Bool := match T.2 n with
  | none => false
  | some q => decide ((if z = 0 then q.1 else runW q.1) = u)
theorem zN_tn {t : Nat} (ht : t < 3) : zN (14 + 10 * t + 1 + 1) = 5000 ∧ zN (14 + 10 * t + 3 + 1) = 5000 := by
  rcases (show t = 0 ∨ t = 1 ∨ t = 2 by omega) with rfl | rfl | rfl <;> exact ⟨rfl, rfl⟩
theorem isReadAs_ok {F t n : Nat} {T : Tn} {z : Int32} {u : List Nat} {M : zM} (h : XT (14 + 10 * t) T M) (ht : t < 3) (hn : n < 1000) (hu : okW u) (hk : ∀ i, i < 5 → M.2 58 i = pk u i) (hF : 3000 < F) : Ton_isReadAs F (14 + 10 * t) 57 z (nI n) M = some (bI (rdB T z u n), M) := by
  have hx := h.2.2.2.1 n hn
  unfold Ton_isReadAs rdB
  rw [has_ok h hn, Option.bind_some]
  dsimp only
  unfold XN at hx
  have hz := zN_tn ht
  cases e : T.2 n with
  | none => rfl
  | some q =>
    obtain ⟨w, b, d⟩ := q
    rw [e] at hx
    obtain ⟨ok, -, -, -, -, -, -, -, p1, p2⟩ := hx
    have ok2 : okW (runW w) := ⟨by have := runW_len w; have := ok.1; omega, runW_lt ok.2⟩
    have cm : ∀ (b0 : Nat) (v : List Nat), okW v → zN (b0 + 1) = 5000 → (∀ i, i < 5 → M.2 (b0 + 1) (5 * n + i) = pk v i) → Ton_isReadAs_J23 F 57 (nI n) b0 M = some (bI (decide (v = u)), M) := fun b0 v hv hz hp => by
      unfold Ton_isReadAs_J23
      have := scmp_ok (F := F) (a := b0) (b := 57) (n := n) (m := 0) hv hu (by omega) (by decide) (by rw [hz]; decide) (by decide) hp (fun i hi => by rw [show 5 * 0 + i = i by omega]; exact hk i hi) hF
      rw [show (0 : Int32) = nI 0 from rfl, this, Option.bind_some]
      dsimp only
      by_cases c : v = u
      · rw [if_pos (show cmpW v u = nI 0 from cmpW_0.mpr c), decide_eq_true c]; rfl
      · rw [if_neg (show ¬ cmpW v u = nI 0 from fun q => c (cmpW_0.mp q)), decide_eq_false c]; rfl
    rw [if_neg (show ¬ bI (some (w, b, d)).isSome = 0 from fun q => absurd (show (1 : Int32) = 0 from q) (by decide))]
    dsimp only
    by_cases c : z = 0
    · rw [if_pos c, if_pos c, cm _ w ok hz.1 p1]
    · rw [if_neg c, if_neg c, cm _ (runW w) ok2 hz.2 p2]
theorem readings_ok {F t : Nat} {T : Tn} {z : Int32} {u : List Nat} {M : zM} (h : XT (14 + 10 * t) T M) (ht : t < 3) (hu : okW u) (hk : ∀ i, i < 5 → M.2 58 i = pk u i) (hF : 3000 < F) : Ton_readings F (14 + 10 * t) 57 z M = some (nI (flN (rdB T z u) 1000).length, M) := by
  have key := loopN_seq (body := Ton_readings_B5 F (14 + 10 * t) 57 z) 1000 (fun i => (nI (flN (rdB T z u) i).length, nI i, M)) (1, nI (flN (rdB T z u) 1000).length, 0, M) F (fun i hi => by
    unfold Ton_readings_B5
    dsimp only [lt]
    rw [if_neg (show ¬ (1000 : Int32) ≤ nI i from nI_ge (b := 1000) hi (by decide)), isReadAs_ok h ht hi hu hk hF, Option.bind_some]
    dsimp only
    rw [flN_s]
    by_cases c : rdB T z u i = true
    · rw [c, if_neg (by decide), if_pos rfl, nI_1, nI_1, List.length_append]; rfl
    · have c : rdB T z u i = false := by simpa using c
      rw [c, if_pos (by decide), nI_1]; rfl) (by
    unfold Ton_readings_B5
    exact if_pos (by decide)) (fun q => by cases q) (by omega)
  unfold Ton_readings
  have key : loopN (Ton_readings_B5 F (14 + 10 * t) 57 z) F (0, 0, M) = _ := key
  rw [key, Option.bind_some]
  rfl
theorem reading_ok {F t : Nat} {T : Tn} {z x : Int32} {u : List Nat} {M : zM} (h : XT (14 + 10 * t) T M) (ht : t < 3) (hu : okW u) (hk : ∀ i, i < 5 → M.2 58 i = pk u i) (hF : 3000 < F) : Ton_reading F (14 + 10 * t) 57 z x M = some (nthI (flN (rdB T z u) 1000) x, M) := by
  have key := nth_loop (body := Ton_reading_B6 F (14 + 10 * t) 57 z x) (p := rdB T z u) (N := 1000) (F := F) (x := x) (M := M) (by decide) (fun n s hn hp => by
    unfold Ton_reading_B6
    dsimp only [lt]
    rw [if_neg (show ¬ (1000 : Int32) ≤ nI n from nI_ge (b := 1000) hn (by decide)), isReadAs_ok h ht hn hu hk hF, hp, Option.bind_some]
    dsimp only
    rw [if_pos (by decide), nI_1]) (fun n s hn hp hs => by
    unfold Ton_reading_B6
    dsimp only [lt]
    rw [if_neg (show ¬ (1000 : Int32) ≤ nI n from nI_ge (b := 1000) hn (by decide)), isReadAs_ok h ht hn hu hk hF, hp, Option.bind_some]
    dsimp only
    rw [if_neg (by decide), if_pos hs]
    exact ⟨_, rfl⟩) (fun n s hn hp hs => by
    unfold Ton_reading_B6
    dsimp only [lt]
    rw [if_neg (show ¬ (1000 : Int32) ≤ nI n from nI_ge (b := 1000) hn (by decide)), isReadAs_ok h ht hn hu hk hF, hp, Option.bind_some]
    dsimp only
    rw [if_neg (by decide), if_neg hs, nI_1]) (fun s => ⟨0, 0, by unfold Ton_reading_B6; exact if_pos (by decide)⟩) hF
  obtain ⟨q, e1, e2⟩ := key
  unfold Ton_reading
  rw [e1, Option.bind_some]
  rcases e2 with ⟨a, n, rfl, rfl⟩ | ⟨a, a', rfl, hn⟩
  · rfl
  · rw [hn]; rfl
/-- the draft's row laid under 57 -/
theorem key_ok {F b : Nat} {S : Sp} {u : List Nat} {M : zM} (h : RX S M) (hb : b = 53 ∨ b = 55) (hl : XL b u M) (hF : 3000 < F) : ∃ M1, Spe_put F 57 0 b M = some ((), M1) ∧ RX S M1 ∧ sameHi M M1 ∧ ∀ i, i < 5 → M1.2 58 i = pk u i := by
  refine ⟨_, sput_ok (n := 0) (by decide) (by decide) (by omega) hF, h.keep (fun c hc _ => ⟨by rw [zPut_1], zPut_o (by omega) 5⟩), fun c hc => ⟨by rw [zPut_1], zPut_o (by omega) 5⟩, fun i hi => ?_⟩
  have := zPut_v (M := M) (c := 58) (k := 0) (g := fun i => M.2 (b + 1) i) 5 i hi
  rw [Nat.zero_add] at this
  exact this.trans (hl.2.2 i hi)
/-! the reference's side -/
def copyA (M M1 : zM) (a : Nat) (v : List Nat) : Prop := (∀ b, b ≠ a → M1.1 b = M.1 b) ∧ M1.2 = M.2 ∧ ∀ j, j < v.length → M1.1 a j = nI (v.getD j 0)
theorem getD_app1 {v : List Nat} {k j : Nat} (h : j < v.length) : (v ++ [k]).getD j 0 = v.getD j 0 := by
  rw [List.getD_eq_getElem?_getD, List.getD_eq_getElem?_getD, List.getElem?_append_left h]
theorem getD_app2 {v : List Nat} {k : Nat} : (v ++ [k]).getD v.length 0 = k := by
  rw [List.getD_eq_getElem?_getD, List.getElem?_append_right (Nat.le_refl _)]
  simp
theorem take_s {w : List Nat} {i : Nat} (h : i < w.length) : w.take (i + 1) = w.take i ++ [w.getD i 0] := by
  rw [List.take_succ, List.getD_eq_getElem?_getD, List.getElem?_eq_getElem h]
  rfl
theorem runW_s {w : List Nat} {i : Nat} (h : i < w.length) : runW (w.take (i + 1)) = if w.getD i 0 = 32 then runW (w.take i) else runW (w.take i) ++ [w.getD i 0] := by
  rw [take_s h, runW_app]
  by_cases c : w.getD i 0 = 32
  · rw [if_pos c, c]; unfold runW; simp
  · rw [if_neg c]
    generalize w.getD i 0 = k at *
    unfold runW; simp [c]
theorem copy_loop {body : Int32 × Int32 × zM → Option (Nat × (Int32 × Int32 × zM))} {w : List Nat} {a F : Nat} {M : zM} (hw : w.length ≤ 60) (hb : ∀ i c M1, i < w.length → c ≤ i → (∀ b, b ≠ a → M1.1 b = M.1 b) → M1.2 = M.2 → body (nI c, nI i, M1) = if w.getD i 0 = 32 then some (0, nI c, nI (i + 1), M1) else some (0, nI (c + 1), nI (i + 1), zI M1 a c (nI (w.getD i 0)))) (he : ∀ c M1, (∀ b, b ≠ a → M1.1 b = M.1 b) → M1.2 = M.2 → body (nI c, nI w.length, M1) = some (1, nI c, 0, M1)) (hF : 3000 < F) : ∃ M1, loopN body F (0, 0, M) = some (1, nI (runW w).length, 0, M1) ∧ copyA M M1 a (runW w) := by
  have key := loopN_inv (body := body) (I := fun i s => ∃ M1, s = (nI (runW (w.take i)).length, nI i, M1) ∧ copyA M M1 a (runW (w.take i))) (Qx := fun q => ∃ M1, q = (1, nI (runW w).length, 0, M1) ∧ copyA M M1 a (runW w)) (N := w.length) (F := F) (s := (0, 0, M)) (fun i s hi hs => by
    obtain ⟨M1, rfl, hc⟩ := hs
    refine Or.inl ?_
    have hl : (runW (w.take i)).length ≤ i := Nat.le_trans (runW_len _) (by rw [List.length_take]; exact Nat.min_le_left _ _)
    rw [hb i _ M1 hi hl hc.1 hc.2.1, runW_s hi]
    by_cases c : w.getD i 0 = 32
    · rw [if_pos c, if_pos c]
      exact ⟨_, rfl, M1, rfl, hc⟩
    · rw [if_neg c, if_neg c]
      refine ⟨_, rfl, _, by rw [List.length_append]; rfl, fun b hb => (zI_other hb).trans (hc.1 b hb), hc.2.1, fun j hj => ?_⟩
      rw [List.length_append] at hj
      have hj : j < (runW (w.take i)).length + 1 := hj
      by_cases e : j = (runW (w.take i)).length
      · rw [e, zI_in, getD_app2]
      · rw [zI_ne (Or.inr e), getD_app1 (by omega)]
        exact hc.2.2 j (by omega)) (fun s hs => by
    obtain ⟨M1, rfl, hc⟩ := hs
    rw [List.take_length] at hc ⊢
    exact ⟨_, he _ M1 hc.1 hc.2.1, (fun q => by cases q), M1, rfl, hc⟩) (by omega) ⟨M, rfl, fun _ _ => rfl, rfl, fun j hj => absurd hj (Nat.not_lt_zero j)⟩
  obtain ⟨q, e1, M1, rfl, hc⟩ := key
  exact ⟨M1, e1, hc⟩
theorem isLt_32 {k : Nat} (h : isLt k) : k < 128 := by unfold isLt at h; omega
theorem getD_mem {w : List Nat} {i : Nat} (hi : i < w.length) : w.getD i 0 ∈ w := by
  rw [List.getD_eq_getElem?_getD, List.getElem?_eq_getElem hi]
  exact List.getElem_mem hi
def rnO (q : Option Nm) : List Nat := match q with
  | none => []
  | some q => runW q.1
theorem runOf_ok {F t n a : Nat} {q : Option Nm} {M : zM} (h : MN (1000 * t + n) q M) (hq : ∀ z, q = some z → okW z.1) (ht : t < 3) (hn : n < 1000) (ha : a = 92 ∨ a = 93) (hF : 3000 < F) : ∃ M1, Mod_runOf F (nI t) (nI n) a M = some (nI (rnO q).length, M1) ∧ copyA M M1 a (rnO q) := by
  have e1 : inb (nI (1000 * t + n)) 3000 = true := inb_nI (by omega) (by decide)
  have e2 : (nI (1000 * t + n)).toNatClampNeg = 1000 * t + n := nI_clamp (by omega)
  have za : zN a = 60 := by rcases ha with rfl | rfl <;> rfl
  unfold Mod_runOf
  dsimp only [lt]
  rw [ix_t]
  cases q with
  | none =>
    have h := h.1
    refine ⟨M, ?_, fun _ _ => rfl, rfl, fun j hj => absurd hj (Nat.not_lt_zero j)⟩
    have key := loopN_seq (body := Mod_runOf_B15 F a (nI (1000 * t + n))) 0 (fun _ => (0, 0, M)) (1, 0, 0, M) F (fun i hi => by omega) (by
      unfold Mod_runOf_B15
      dsimp only
      rw [if_pos e1, e2, h, if_pos (by decide)]) (fun q => by cases q) (by omega)
    have key : loopN (Mod_runOf_B15 F a (nI (1000 * t + n))) F (0, 0, M) = _ := key
    rw [key]
    rfl
  | some z =>
    obtain ⟨w, b, d⟩ := z
    obtain ⟨h1, -, -, -, h5⟩ := h
    have ok : okW w := hq _ rfl
    have ok1 := ok.1
    have h60 : w.length ≤ 60 := ok1
    obtain ⟨M1, k1, k2⟩ := copy_loop (body := Mod_runOf_B15 F a (nI (1000 * t + n))) (w := w) (a := a) (F := F) (M := M) h60 (fun i c M1 hi hc o1 o2 => by
      have hm := isLt_32 (ok.2 _ (getD_mem hi))
      have hby : mB M1 (1000 * t + n) i = nI (w.getD i 0) := by rw [← h5 i hi]; unfold mB; rw [o2]
      unfold Mod_runOf_B15
      dsimp only [lt]
      rw [if_pos e1, e2, o1 74 (by omega), h1, if_neg (nI_ge hi (by omega)), Mod_byteOf_ok (by omega) (by omega), hby, Option.bind_some]
      dsimp only
      by_cases c32 : w.getD i 0 = 32
      · rw [if_pos c32, if_pos (show nI (w.getD i 0) = 32 by rw [c32]; rfl), nI_1]
      · rw [if_neg c32, if_neg (show ¬ nI (w.getD i 0) = 32 from fun q => c32 ((nI_eq (b := 32) (by omega) (by decide)).mp q)), za, if_pos (inb_nI (by omega) (by decide)), nI_clamp (by omega), nI_1, nI_1]) (fun c M1 o1 o2 => by
      unfold Mod_runOf_B15
      dsimp only
      rw [if_pos e1, e2, o1 74 (by omega), h1, if_pos (nI_le (Nat.le_refl _) (by omega))]) hF
    refine ⟨M1, ?_, k2⟩
    rw [k1]
    rfl
theorem draftRun_ok {F a : Nat} {S : Sp} {M : zM} (h0 : okS S) (h : RM S M) (ha : a = 92 ∨ a = 93) (hF : 3000 < F) : ∃ M1, Mod_draftRun F a M = some (nI (runW S.2.2.2).length, M1) ∧ copyA M M1 a (runW S.2.2.2) := by
  have za : zN a = 60 := by rcases ha with rfl | rfl <;> rfl
  have ok : okW S.2.2.2 := h0.2.2.2
  have h60 := ok.1
  obtain ⟨M1, k1, k2⟩ := copy_loop (body := Mod_draftRun_B4 F a) (w := S.2.2.2) (a := a) (F := F) (M := M) h60 (fun i c M1 hi hc o1 o2 => by
    have hm := isLt_32 (ok.2 _ (getD_mem hi))
    unfold Mod_draftRun_B4
    dsimp only [lt]
    rw [o1 63 (by omega), o1 95 (by omega), h.2.2.2.2.1, if_neg (nI_ge hi (by omega)), if_pos (inb_nI (by omega) (by decide)), nI_clamp (by omega), h.2.2.2.2.2.1 i hi]
    by_cases c32 : S.2.2.2.getD i 0 = 32
    · rw [if_pos c32, if_pos (show nI (S.2.2.2.getD i 0) = 32 by rw [c32]; rfl), nI_1]
    · rw [if_neg c32, if_neg (show ¬ nI (S.2.2.2.getD i 0) = 32 from fun q => c32 ((nI_eq (b := 32) (by omega) (by decide)).mp q)), za, if_pos (inb_nI (by omega) (by decide)), nI_clamp (by omega), nI_1, nI_1]) (fun c M1 o1 o2 => by
    unfold Mod_draftRun_B4
    dsimp only
    rw [o1 63 (by omega), h.2.2.2.2.1, if_pos (nI_le (Nat.le_refl _) (by omega))]) hF
  refine ⟨M1, ?_, k2⟩
  unfold Mod_draftRun
  rw [k1]
  rfl

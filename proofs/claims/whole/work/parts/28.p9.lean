/-! ===== about ===== -/
def isN (T : Tn) (n : Nat) : Bool := (T.2 n).isSome
theorem named_fl (T : Tn) : named T = flN (isN T) 1000 := rfl
/-- the greatest named one below k -/
def grN (T : Tn) : Nat → Int32
  | 0 => -1
  | k + 1 => if isN T k = true then nI k else grN T k
theorem grN_eq {T : Tn} {n : Nat} : ∀ k, n < k → isN T n = true → (∀ m, n < m → m < k → isN T m = false) → grN T k = nI n := by
  intro k
  induction k with
  | zero => intro h; omega
  | succ k ih =>
    intro h hn hm
    unfold grN
    rcases Nat.lt_or_ge n k with q | q
    · rw [if_neg (by rw [hm k q (by omega)]; decide)]
      exact ih q hn (fun m h1 h2 => hm m h1 (by omega))
    · rw [show k = n by omega, if_pos hn]
theorem grN_none {T : Tn} : ∀ k, (∀ m, m < k → isN T m = false) → grN T k = -1 := by
  intro k
  induction k with
  | zero => intro _; rfl
  | succ k ih =>
    intro h
    unfold grN
    rw [if_neg (by rw [h k (by omega)]; decide)]
    exact ih (fun m hm => h m (by omega))
/-- the least nameless one among the last j -/
def lzN (T : Tn) : Nat → Int32
  | 0 => -1
  | j + 1 => if isN T (999 - j) = true then lzN T j else nI (999 - j)
theorem lzN_eq {T : Tn} {n : Nat} (hn : n < 1000) (h : isN T n = false) (hb : ∀ m, m < n → isN T m = true) : ∀ j, 1000 - n ≤ j → j ≤ 1000 → lzN T j = nI n := by
  intro j
  induction j with
  | zero => intro h1 h2; omega
  | succ j ih =>
    intro h1 h2
    unfold lzN
    by_cases c : 999 - j = n
    · rw [c, if_neg (by rw [h]; decide)]
    · rw [if_pos (hb _ (by omega))]
      exact ih (by omega) (by omega)
theorem lzN_none {T : Tn} (h : ∀ m, m < 1000 → isN T m = true) : ∀ j, j ≤ 1000 → lzN T j = -1 := by
  intro j
  induction j with
  | zero => intro _; rfl
  | succ j ih =>
    intro h2
    unfold lzN
    rw [if_pos (h _ (by omega))]
    exact ih (by omega)
def ctN (p : Nat → Bool) : Nat → Nat
  | 0 => 0
  | j + 1 => ctN p j + (if p (999 - j) = true then 1 else 0)
theorem ctN_len (p : Nat → Bool) : ∀ j, j ≤ 1000 → (flN p (1000 - j)).length + ctN p j = (flN p 1000).length := by
  intro j
  induction j with
  | zero => intro _; exact Nat.add_zero _
  | succ j ih =>
    intro hj
    have := ih (by omega)
    rw [show 1000 - j = (1000 - (j + 1)) + 1 by omega, flN_s, show 1000 - (j + 1) = 999 - j by omega] at this
    unfold ctN
    rw [show 1000 - (j + 1) = 999 - j by omega]
    by_cases c : p (999 - j) = true
    · rw [if_pos c, List.length_append] at this
      rw [if_pos c]
      have e : [999 - j].length = 1 := rfl
      omega
    · rw [if_neg c] at this
      rw [if_neg c]
      omega
theorem ctN_le (p : Nat → Bool) : ∀ j, ctN p j ≤ j := by
  intro j
  induction j with
  | zero => exact Nat.le_refl 0
  | succ j ih => unfold ctN; by_cases c : p (999 - j) = true <;> simp [c] <;> omega
theorem ctN_all (p : Nat → Bool) : ctN p 1000 = (flN p 1000).length := by
  have := ctN_len p 1000 (Nat.le_refl _)
  have e : (flN p (1000 - 1000)).length = 0 := rfl
  omega
/-- the greatest named one among the last j -/
def gmN (T : Tn) : Nat → Int32
  | 0 => -1
  | j + 1 => if isN T (999 - j) = true then (if 0 ≤ gmN T j then gmN T j else nI (999 - j)) else gmN T j
theorem gmN_is (T : Tn) : ∀ j, j ≤ 1000 → (gmN T j = -1 ∧ ∀ m, 1000 - j ≤ m → m < 1000 → isN T m = false) ∨ ∃ n, gmN T j = nI n ∧ 1000 - j ≤ n ∧ n < 1000 ∧ isN T n = true ∧ ∀ m, n < m → m < 1000 → isN T m = false := by
  intro j
  induction j with
  | zero => intro _; exact Or.inl ⟨rfl, fun m h1 h2 => by omega⟩
  | succ j ih =>
    intro hj
    unfold gmN
    rcases ih (by omega) with ⟨e, hm⟩ | ⟨n, e, h1, h2, h3, h4⟩
    · by_cases c : isN T (999 - j) = true
      · rw [if_pos c, e, if_neg (by decide)]
        exact Or.inr ⟨999 - j, rfl, by omega, by omega, c, fun m q1 q2 => hm m (by omega) q2⟩
      · rw [if_neg c]
        refine Or.inl ⟨e, fun m q1 q2 => ?_⟩
        by_cases cm : m = 999 - j
        · rw [cm]; simpa using c
        · exact hm m (by omega) q2
    · have : 0 ≤ gmN T j := by rw [e]; exact nI_pos' (by omega)
      rw [if_pos this]
      have hh : (if isN T (999 - j) = true then gmN T j else gmN T j) = gmN T j := by by_cases c : isN T (999 - j) = true <;> simp [c]
      rw [hh]
      exact Or.inr ⟨n, e, by omega, h2, h3, h4⟩
theorem gmN_all (T : Tn) : gmN T 1000 = grN T 1000 := by
  rcases gmN_is T 1000 (Nat.le_refl _) with ⟨e, hm⟩ | ⟨n, e, h1, h2, h3, h4⟩
  · rw [e, grN_none 1000 (fun m q => hm m (by omega) q)]
  · rw [e, grN_eq 1000 h2 h3 h4]
theorem greatest_ok {F a : Nat} {T : Tn} {M : zM} (h : XT a T M) (hF : 3000 < F) : Ton_greatestNamed F a M = some (grN T 1000, M) := by
  obtain ⟨q, e1, e2⟩ := loopN_inv (body := Ton_greatestNamed_B4 F a) (I := fun j s => s = (nI (1000 - j) - 1, M) ∧ ∀ m, 1000 - j ≤ m → m < 1000 → isN T m = false) (Qx := fun q => (∃ n, n < 1000 ∧ q = (1, nI n, M) ∧ isN T n = true ∧ ∀ m, n < m → m < 1000 → isN T m = false) ∨ (q = (2, 0, M) ∧ ∀ m, m < 1000 → isN T m = false)) (N := 1000) (F := F) (s := (999, M)) (fun j s hj hs => by
    obtain ⟨rfl, hm⟩ := hs
    have ex : nI (1000 - j) - 1 = nI (999 - j) := by have := idx_dn hj; rw [this]
    unfold Ton_greatestNamed_B4
    dsimp only [lt]
    rw [ex, if_neg (nI_pos (by omega)), has_ok h (by omega), Option.bind_some]
    dsimp only
    cases c : isN T (999 - j) with
    | true =>
      have c' : (T.2 (999 - j)).isSome = true := c
      rw [c', if_neg (by decide)]
      exact Or.inr ⟨_, rfl, (fun q => by cases q), Or.inl ⟨999 - j, by omega, rfl, c, fun m q1 q2 => hm m (by omega) q2⟩⟩
    | false =>
      have c' : (T.2 (999 - j)).isSome = false := c
      rw [c', if_pos (by decide)]
      refine Or.inl ⟨_, rfl, ?_, fun m q1 q2 => ?_⟩
      · rw [show (1000 - (j + 1)) = 999 - j by omega, Int32.sub_eq_add_neg]
      · by_cases cm : m = 999 - j
        · rw [cm]; exact c
        · exact hm m (by omega) q2) (fun s hs => by
    obtain ⟨rfl, hm⟩ := hs
    refine ⟨(2, 0, M), ?_, (fun q => by cases q), Or.inr ⟨rfl, fun m q => hm m (by omega) q⟩⟩
    unfold Ton_greatestNamed_B4
    exact if_pos (by decide)) (by omega) ⟨rfl, fun m q1 q2 => by omega⟩
  unfold Ton_greatestNamed
  rw [e1, Option.bind_some]
  rcases e2 with ⟨n, hn, rfl, h1, h2⟩ | ⟨rfl, h1⟩
  · rw [grN_eq 1000 hn h1 h2]; rfl
  · rw [grN_none 1000 h1]; rfl
theorem least_ok {F a : Nat} {T : Tn} {M : zM} (h : XT a T M) (hF : 3000 < F) : Ton_leastNameless F a M = some (lzN T 1000, M) := by
  obtain ⟨q, e1, e2⟩ := loopN_inv (body := Ton_leastNameless_B2 F a) (I := fun j s => s = (nI j, M) ∧ ∀ m, m < j → isN T m = true) (Qx := fun q => (∃ n, n < 1000 ∧ q = (1, nI n, M) ∧ isN T n = false ∧ ∀ m, m < n → isN T m = true) ∨ (q = (2, 0, M) ∧ ∀ m, m < 1000 → isN T m = true)) (N := 1000) (F := F) (s := (0, M)) (fun j s hj hs => by
    obtain ⟨rfl, hm⟩ := hs
    unfold Ton_leastNameless_B2
    dsimp only [lt]
    rw [if_neg (show ¬ (1000 : Int32) ≤ nI j from nI_ge (b := 1000) hj (by decide)), has_ok h hj, Option.bind_some]
    dsimp only
    cases c : isN T j with
    | false =>
      have c' : (T.2 j).isSome = false := c
      rw [c', if_pos (by decide)]
      exact Or.inr ⟨_, rfl, (fun q => by cases q), Or.inl ⟨j, hj, rfl, c, hm⟩⟩
    | true =>
      have c' : (T.2 j).isSome = true := c
      rw [c', if_neg (by decide), nI_1]
      refine Or.inl ⟨_, rfl, rfl, fun m q => ?_⟩
      by_cases cm : m = j
      · rw [cm]; exact c
      · exact hm m (by omega)) (fun s hs => by
    obtain ⟨rfl, hm⟩ := hs
    refine ⟨(2, 0, M), ?_, (fun q => by cases q), Or.inr ⟨rfl, hm⟩⟩
    unfold Ton_leastNameless_B2
    exact if_pos (by decide)) (by omega) ⟨rfl, fun m q => by omega⟩
  unfold Ton_leastNameless
  rw [e1, Option.bind_some]
  rcases e2 with ⟨n, hn, rfl, h1, h2⟩ | ⟨rfl, h1⟩
  · rw [lzN_eq hn h1 h2 1000 (by omega) (Nat.le_refl _)]; rfl
  · rw [lzN_none h1 1000 (Nat.le_refl _)]; rfl
theorem honestCount_ok {F a : Nat} {T : Tn} {M : zM} (h : XT a T M) (hF : 3000 < F) : Ton_honestCount F a M = some (nI (flN (hon T) 1000).length, M) := by
  rw [hon_61 h.len]
  have key := loopN_seq (body := Ton_honestCount_B4 F a) 61 (fun n => (nI (flN (hon T) n).length, nI n, M)) (1, nI (flN (hon T) 61).length, 0, M) F (fun n hn => by
    unfold Ton_honestCount_B4
    dsimp only [lt]
    rw [if_neg (show ¬ (60 : Int32) < nI n from nI_nlt (a := 60) (by omega) (by decide)), isHonest_ok h (by omega), Option.bind_some]
    dsimp only
    rw [flN_s]
    cases c : hon T n with
    | false => rw [if_pos (by decide), if_neg (by decide), nI_1]
    | true => rw [if_neg (by decide), if_pos rfl, nI_1, nI_1, List.length_append]; rfl) (by
    unfold Ton_honestCount_B4
    exact if_pos (by decide)) (fun q => by cases q) (by omega)
  have key : loopN (Ton_honestCount_B4 F a) F (0, 0, M) = some (1, nI (flN (hon T) 61).length, 0, M) := key
  unfold Ton_honestCount
  rw [key]
  rfl
def spAbout (t : Nat) (x : Int32) (S : Sp) : Int32 := if x = 0 then nI (S.2.2.1 t).1 else if x = 1 then nI (named (S.2.2.1 t)).length else if x = 2 then grN (S.2.2.1 t) 1000 else if x = 3 then lzN (S.2.2.1 t) 1000 else if x = 4 then nI (flN (hon (S.2.2.1 t)) 1000).length else if x = 5 then nI S.1.length else if x = 6 then nI S.2.2.2.length else -1002
theorem mabout_loop {F t : Nat} {x : Int32} {S : Sp} {M : zM} (h0 : okS S) (h : RM S M) (ht : t < 3) (hF : 3000 < F) : loopN (Mod_about_B27 F (nI t) x) F (0, -1, -1, 0, 999, M) = some (1, nI (named (S.2.2.1 t)).length, grN (S.2.2.1 t) 1000, lzN (S.2.2.1 t) 1000, nI (flN (hon (S.2.2.1 t)) 1000).length, 0, M) := by
  have hlen : ∀ n, n < 1000 → ∀ w b d, (S.2.2.1 t).2 n = some (w, b, d) → w.length ≤ 60 := fun n hn w b d e => ((h0.2.2.1 t ht).2 n hn w b d e).1.1
  have key := loopN_seq (body := Mod_about_B27 F (nI t) x) 1000 (fun j => (nI (ctN (isN (S.2.2.1 t)) j), gmN (S.2.2.1 t) j, lzN (S.2.2.1 t) j, nI (ctN (hon (S.2.2.1 t)) j), nI (1000 - j) - 1, M)) (1, nI (ctN (isN (S.2.2.1 t)) 1000), gmN (S.2.2.1 t) 1000, lzN (S.2.2.1 t) 1000, nI (ctN (hon (S.2.2.1 t)) 1000), 0, M) F (fun j hj => by
    have ex : nI (1000 - j) - 1 = nI (999 - j) := by have := idx_dn hj; rw [this]
    have em : nI (999 - j) + (-1) = nI (1000 - (j + 1)) - 1 := by rw [show (1000 - (j + 1)) = 999 - j by omega, Int32.sub_eq_add_neg]
    have hn : 999 - j < 1000 := by omega
    have e1 : inb (nI (1000 * t + (999 - j))) 3000 = true := inb_nI (by omega) (by decide)
    have e2 : (nI (1000 * t + (999 - j))).toNatClampNeg = 1000 * t + (999 - j) := nI_clamp (by omega)
    have hm := (h.2.2.2.1 t ht).2 (999 - j) hn
    have hlet : Mod_lettersOf F (nI t) (nI (999 - j)) M = some (onm ((S.2.2.1 t).2 (999 - j)) (fun z => nI (runW z.1).length), M) := Mod_lettersOf_ok hm (fun z hz => hlen _ hn z.1 z.2.1 z.2.2 hz) ht hn
    have h99 : ∀ a b c d : Int32, Mod_about_J99 F (nI t) x a b c (nI (999 - j)) d M = some (0, a, b, d, c + (if hon (S.2.2.1 t) (999 - j) = true then 1 else 0), nI (1000 - (j + 1)) - 1, M) := fun a b c d => by
      unfold Mod_about_J99
      rw [hlet, Option.bind_some]
      dsimp only [lt]
      rw [em]
      by_cases ch : hon (S.2.2.1 t) (999 - j) = true
      · rw [if_pos ((hon_onm hn (hlen _ hn)).mpr ch), if_pos ch]
      · rw [if_neg (fun q => ch ((hon_onm hn (hlen _ hn)).mp q)), if_neg ch]
    have hs1 : nI (ctN (hon (S.2.2.1 t)) j) + (if hon (S.2.2.1 t) (999 - j) = true then (1 : Int32) else 0) = nI (ctN (hon (S.2.2.1 t)) (j + 1)) := by
      conv => rhs; unfold ctN
      by_cases ch : hon (S.2.2.1 t) (999 - j) = true
      · rw [if_pos ch, if_pos ch, nI_1]
      · rw [if_neg ch, if_neg ch]; simp
    show Mod_about_B27 F (nI t) x (_, _, _, _, nI (1000 - j) - 1, M) = some (0, nI (ctN (isN (S.2.2.1 t)) (j + 1)), gmN (S.2.2.1 t) (j + 1), lzN (S.2.2.1 t) (j + 1), _, _, M)
    unfold Mod_about_B27
    dsimp only
    rw [ex, if_neg (nI_pos (by omega)), ix_t, if_pos e1, e2]
    unfold Mod_about_J53 Mod_about_J66 Mod_about_J83 Mod_about_J85
    dsimp only [lt]
    have c1 : ∀ p, ctN p (j + 1) = ctN p j + (if p (999 - j) = true then 1 else 0) := fun p => rfl
    have c2 : gmN (S.2.2.1 t) (j + 1) = if isN (S.2.2.1 t) (999 - j) = true then (if 0 ≤ gmN (S.2.2.1 t) j then gmN (S.2.2.1 t) j else nI (999 - j)) else gmN (S.2.2.1 t) j := rfl
    have c3 : lzN (S.2.2.1 t) (j + 1) = if isN (S.2.2.1 t) (999 - j) = true then lzN (S.2.2.1 t) j else nI (999 - j) := rfl
    rw [c1 (isN (S.2.2.1 t)), c2, c3]
    unfold MN at hm
    cases e : (S.2.2.1 t).2 (999 - j) with
    | none =>
      have cn : isN (S.2.2.1 t) (999 - j) = false := by unfold isN; rw [e]; rfl
      rw [e] at hm
      rw [hm.1, if_pos (by decide), if_pos rfl, if_pos rfl, if_pos rfl, h99, cn, hs1]
      simp
    | some q =>
      obtain ⟨w, b, d⟩ := q
      have cn : isN (S.2.2.1 t) (999 - j) = true := by unfold isN; rw [e]; rfl
      have := hlen _ hn w b d e
      rw [e] at hm
      rw [hm.1, if_neg (nI_pos (by omega)), cn]
      have n10 : ((1 : Int32) = 0) = False := eq_false (by decide)
      by_cases cg : 0 ≤ gmN (S.2.2.1 t) j
      · simp only [cg, if_true, h99, hs1, nI_1, n10, if_false]
      · simp only [cg, if_false, if_true, h99, hs1, nI_1, n10]) (by
    unfold Mod_about_B27
    exact if_pos (by decide)) (fun q => by cases q) (by omega)
  have key : loopN (Mod_about_B27 F (nI t) x) F (0, -1, -1, 0, 999, M) = _ := key
  rw [key, ctN_all, ctN_all, gmN_all, named_fl]
theorem ok_about {F : Nat} (hF : 3000 < F) (x y : Int32) : Good (NW_about F x y) (Mod_about F x y) := by
  cases h1 : inb x 3 with
  | false => exact mkGood0 (fun _ => -1001) (fun S M h => by simp [NW_about, NW_isTongue_ok, h1, bI]) (fun S M h0 h => by simp [Mod_about, Mod_isTongue_ok, h1, bI])
  | true =>
    obtain ⟨t, ht, rfl⟩ := inb_of h1 (by decide)
    refine mkGood0 (spAbout t y) (fun S M h => ?_) (fun S M h0 h => ?_)
    · have hT := h.2.2.2.2.2.1 t ht
      have g0 : Ton_clauseCount F (14 + 10 * t) M = some (nI (S.2.2.1 t).1, M) := by show some (M.1 (14 + 10 * t) 0, M) = _; rw [hT.2.1]
      have g1 : Ton_namedCount F (14 + 10 * t) M = some (nI (named (S.2.2.1 t)).length, M) := by show some (M.1 (14 + 10 * t) 1, M) = _; rw [hT.2.2.1]
      have g5 : Tex_size F M = some (nI S.1.length, M) := by show some (M.1 1 1, M) = _; rw [h.2.2.1]
      have g6 : Lin_size F 53 M = some (nI S.2.2.2.length, M) := by show some (M.1 53 1, M) = _; rw [h.2.2.2.2.2.2.1.2.1]
      unfold NW_about spAbout
      rw [NW_isTongue_ok, h1, Option.bind_some]
      dsimp only
      rw [if_neg (by decide), if_pos rfl, tgA_n t ht, g0, g1, greatest_ok hT hF, least_ok hT hF, honestCount_ok hT hF, g5, g6]
      simp only [Option.bind_some]
      repeat' split
      all_goals rfl
    · unfold Mod_about spAbout
      rw [Mod_isTongue_ok, h1, Option.bind_some]
      dsimp only
      rw [if_neg (by decide), mabout_loop h0 h ht hF, Option.bind_some]
      dsimp only
      rw [if_pos rfl, if_pos rfl, nI_clamp (by omega), (h.2.2.2.1 t ht).1, h.1, h.2.2.2.2.1]
      repeat' split
      all_goals rfl

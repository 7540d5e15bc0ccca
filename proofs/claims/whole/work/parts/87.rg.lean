/-! the reference makes names: which clause, which numbers, how far they are -/
def oT (t : Nat) (o : Option Nat) : Int32 := match o with
  | none => -1
  | some i => nI (12 * t + i)
theorem clF_ok {F t n : Nat} {C : List Cls} {M : zM} (hC : CT t C M) (ht : t < 3) (h12 : C.length ≤ 12) (hok : ∀ c ∈ C, okCl c) (hn : n < 1000) (hF : 3000 < F) : Mod_clauseFor F (nI t) (nI n) M = some (oT t (chs C n), M) := by
  have ix : (12 : Int32) * nI t = nI (12 * t) := by rw [show (12 : Int32) = nI 12 from rfl, pk_mul]
  have okc : ∀ i, i < C.length → okCl (cg C i) := fun i hi => hok _ (cg_mem hi)
  have k1 := loopN_inv (body := Mod_clauseFor_B17 F (nI t) (nI n)) (I := fun j s => s = (oT t (chD C n j), nI (12 * t + (C.length - j)) - 1, M)) (Qx := fun q => q = (1, oT t (chD C n C.length), 0, M)) (N := C.length) (F := F) (s := (-1, nI (12 * t + C.length) - 1, M)) (fun j s hj hs => by
    subst hs
    have hi : C.length - 1 - j < C.length := by omega
    have ej : nI (12 * t + (C.length - j)) - 1 = nI (12 * t + (C.length - 1 - j)) := by rw [show nI (12 * t + (C.length - j)) - 1 = nI (12 * t + (C.length - j) - 1) from pk_sub (b := 1) (by omega)]; congr 1; omega
    have en : nI (12 * t + (C.length - 1 - j)) + (-1) = nI (12 * t + (C.length - (j + 1))) - 1 := by rw [show C.length - (j + 1) = C.length - 1 - j by omega, Int32.sub_eq_add_neg]
    obtain ⟨c1, c2, c3, -⟩ := hC.2 _ hi
    have o1 := (okc _ hi).1
    have o2 := (okc _ hi).2.1
    refine Or.inl ?_
    unfold Mod_clauseFor_B17
    dsimp only [lt]
    rw [ej, ix, if_neg (nI_nlt (by omega) (by omega)), if_pos (inb_nI (by omega) (by decide)), nI_clamp (by omega), c1, chD_s]
    by_cases d0 : (cg C (C.length - 1 - j)).2.2.1 = 0
    · rw [decide_eq_true d0, if_neg (show ¬ bI true = 0 by decide), en, if_neg (fun z => z.1 d0)]
      exact ⟨_, rfl, rfl⟩
    · rw [decide_eq_false d0, if_pos (show bI false = 0 from rfl), c2, (c3 d0).1]
      by_cases d1 : (cg C (C.length - 1 - j)).1 ≤ n
      · rw [if_neg (nI_nlt d1 (by omega))]
        by_cases d2 : n ≤ (cg C (C.length - 1 - j)).2.1
        · rw [if_neg (nI_nlt d2 (by omega)), if_pos ⟨d0, d1, d2⟩, en]
          exact ⟨_, rfl, rfl⟩
        · rw [if_pos (nI_lt (by omega) (by omega)), if_neg (fun z => d2 z.2.2), en]
          exact ⟨_, rfl, rfl⟩
      · rw [if_pos (nI_lt (by omega) (by omega)), if_neg (fun z => d1 z.2.1), en]
        exact ⟨_, rfl, rfl⟩) (fun s hs => by
    subst hs
    refine ⟨_, ?_, (fun q => by cases q), rfl⟩
    unfold Mod_clauseFor_B17
    dsimp only
    rw [ix, Nat.sub_self, Nat.add_zero, if_pos (show nI (12 * t) - 1 < nI (12 * t) by rcases (show t = 0 ∨ t = 1 ∨ t = 2 by omega) with rfl | rfl | rfl <;> decide)]) (by omega) rfl
  obtain ⟨q, e1, rfl⟩ := k1
  have k2 := loopN_inv (body := Mod_clauseFor_B77 F (nI t) (nI n)) (I := fun j s => s = (oT t (chU C n j), nI (12 * t + j), M)) (Qx := fun q => q = (1, oT t (chU C n C.length), 0, M)) (N := C.length) (F := F) (s := (oT t (chD C n C.length), nI (12 * t), M)) (fun j s hj hs => by
    subst hs
    obtain ⟨c1, c2, c3, -⟩ := hC.2 _ hj
    have o1 := (okc _ hj).1
    refine Or.inl ?_
    unfold Mod_clauseFor_B77
    dsimp only [lt]
    rw [if_pos (inb_nI ht (by decide)), nI_clamp (by omega), hC.1, ix, nI_add, if_neg (nI_ge (by omega) (by omega)), if_pos (inb_nI (by omega) (by decide)), nI_clamp (by omega), c1, c2, nI_1, chU_s]
    by_cases d0 : (cg C j).2.2.1 = 0
    · rw [decide_eq_true d0, if_neg (show ¬ bI true = 0 by decide)]
      by_cases d1 : (cg C j).1 = n
      · rw [if_pos (by rw [d1]), if_pos ⟨d0, d1⟩]
        exact ⟨_, rfl, rfl⟩
      · rw [if_neg (fun z => d1 ((nI_eq (by omega) (by omega)).mp z).symm), if_neg (fun z => d1 z.2)]
        exact ⟨_, rfl, rfl⟩
    · rw [decide_eq_false d0, if_pos (show bI false = 0 from rfl), if_neg (fun z => d0 z.1)]
      exact ⟨_, rfl, rfl⟩) (fun s hs => by
    subst hs
    refine ⟨_, ?_, (fun q => by cases q), rfl⟩
    unfold Mod_clauseFor_B77
    dsimp only
    rw [if_pos (inb_nI ht (by decide)), nI_clamp (by omega), hC.1, ix, nI_add, if_pos (nI_le (Nat.le_refl _) (by omega))]) (by omega) rfl
  obtain ⟨q, e2, rfl⟩ := k2
  unfold Mod_clauseFor
  dsimp only [lt]
  rw [if_pos (inb_nI ht (by decide)), nI_clamp (by omega), hC.1, ix, nI_add, e1, Option.bind_some]
  dsimp only
  rw [if_pos rfl, e2, Option.bind_some]
  rfl
theorem thereM {F c j n : Nat} {cl : Cls} {M : zM} (h : CT1 c cl M) (hj : j < cl.2.2.2.length) (hc : c < 36) (hu : 2 ≤ cl.2.2.1 ∧ cl.2.2.1 ≤ 500) (hn : n < 1000) : Mod_isThere F (nI (8 * c + j)) (nI c) (nI n) M = some (bI (thr (pg cl.2.2.2 j) n cl.2.2.1), M) := by
  obtain ⟨h1, h2, h3, h4, h5, h6⟩ := h
  have un : cl.2.2.1 ≠ 0 := by omega
  have b := (h6 j hj).2 un
  have m1 : n % cl.2.2.1 < 1000 := Nat.lt_of_le_of_lt (Nat.mod_le _ _) hn
  unfold Mod_isThere
  rw [if_pos (inb_nI (by omega) (by decide)), nI_clamp (by omega), b, if_pos (inb_nI hc (by decide)), nI_clamp (by omega), (h3 un).2, if_pos (show ¬ nI cl.2.2.1 = 0 from fun z => un ((nI_eq (b := 0) (by omega) (by decide)).mp z)), pk_rem (by omega) (by omega) (by omega)]
  unfold thr
  cases (pg cl.2.2.2 j).2.1 with
  | false => rw [if_pos (show bI false = 0 from rfl), n1]; rfl
  | true =>
    rw [if_neg (show ¬ bI true = 0 by decide)]
    by_cases d : n % cl.2.2.1 = 0
    · rw [if_pos (show nI (n % cl.2.2.1) = 0 by rw [d]; rfl), n0, decide_eq_false (fun z => z.2 d)]; rfl
    · rw [if_neg (show ¬ nI (n % cl.2.2.1) = 0 from fun z => d ((nI_eq (b := 0) (by omega) (by decide)).mp z)), n1, decide_eq_true ⟨un, d⟩]; rfl
theorem numM {F c j n : Nat} {cl : Cls} {M : zM} (h : CT1 c cl M) (hj : j < cl.2.2.2.length) (hc : c < 36) (hu : 2 ≤ cl.2.2.1 ∧ cl.2.2.1 ≤ 500) (hn : n < 1000) (hk : isK (pg cl.2.2.2 j).1 = true) : Mod_numberOf F (nI (8 * c + j)) (nI c) (nI n) M = some (nI (askN (pg cl.2.2.2 j).1 n cl.2.2.1), M) := by
  obtain ⟨h1, h2, h3, h4, h5, h6⟩ := h
  have un : cl.2.2.1 ≠ 0 := by omega
  have b := (h6 j hj).1.1
  have r1 : n % cl.2.2.1 < cl.2.2.1 := Nat.mod_lt _ (by omega)
  have r2 : n % cl.2.2.1 ≤ n := Nat.mod_le _ _
  unfold Mod_numberOf
  dsimp only [lt]
  rw [if_pos (inb_nI hc (by decide)), nI_clamp (by omega), (h3 un).2, if_pos (show ¬ nI cl.2.2.1 = 0 from fun z => un ((nI_eq (b := 0) (by omega) (by decide)).mp z)), pk_rem (by omega) (by omega) (by omega), if_pos (inb_nI (by omega) (by decide)), nI_clamp (by omega), b]
  unfold askN
  rcases of_decide_eq_true hk with y | y | y | y | y <;> rw [y]
  · rw [if_pos (by decide), if_pos rfl, pk_div (by omega) (by omega) (by omega)]
  · rw [if_neg (by decide), if_pos (by decide), if_neg (by decide), if_pos rfl, pk_sub r2]
  · rw [if_neg (by decide), if_neg (by decide), if_pos (by decide), if_neg (by decide), if_neg (by decide), if_pos rfl]
  · rw [if_neg (by decide), if_neg (by decide), if_neg (by decide), if_pos (by decide), if_neg (by decide), if_neg (by decide), if_neg (by decide), if_pos rfl, pk_sub (by omega)]
  · rw [if_neg (by decide), if_neg (by decide), if_neg (by decide), if_neg (by decide), if_pos (by decide), if_neg (by decide), if_neg (by decide), if_neg (by decide), if_neg (by decide), pk_sub r2, nI_add]
/-- how a part stands: 1 it is there, or not asked for; 2 never; 0 not yet -/
def stQ (st : Nat → Nat) (n u : Nat) (q : Prt) : Nat := if q.1 = 0 then 1 else if thr q n u = true then (if askN q.1 n u < 1000 then st (askN q.1 n u) else 2) else 1
def stC (s o : Nat) : Nat := if o = 2 ∨ s = 2 then 2 else if o = 0 then 0 else s
def stP (st : Nat → Nat) (n u : Nat) : List Prt → Nat → Nat
  | [], s => s
  | q :: ps, s => stP st n u ps (stC s (stQ st n u q))
theorem stP_c (st : Nat → Nat) (n u : Nat) (q : Prt) (ps : List Prt) (s : Nat) : stP st n u (q :: ps) s = stP st n u ps (stC s (stQ st n u q)) := rfl
theorem stQ_3 {st : Nat → Nat} (h : ∀ m, m < 1000 → st m < 3) {n u : Nat} {q : Prt} : stQ st n u q < 3 := by
  unfold stQ
  split
  · decide
  · split
    · split
      · rename_i a; exact h _ a
      · decide
    · decide
theorem stC_3 {s o : Nat} (h1 : s < 3) (h2 : o < 3) : stC s o < 3 := by
  unfold stC
  split
  · decide
  · split
    · decide
    · exact h1
theorem stC_1 {s : Nat} (h1 : s < 3) : stC s 1 = s := by
  unfold stC
  by_cases c : s = 2
  · rw [if_pos (Or.inr c), c]
  · rw [if_neg (by omega), if_neg (by decide)]
theorem ask_b {k n u : Nat} (hn : n < 1000) (hu : 2 ≤ u ∧ u ≤ 500) : askN k n u < 5000 := by
  have r1 : n % u < u := Nat.mod_lt _ (by omega)
  have r2 : n % u ≤ n := Nat.mod_le _ _
  have r3 : n / u ≤ n := Nat.div_le_self _ _
  unfold askN
  repeat' split
  all_goals omega
theorem stO_ok {F t i n : Nat} {C : List Cls} {st : Nat → Nat} {M : zM} (hC : CT t C M) (ht : t < 3) (h12 : C.length ≤ 12) (hi : i < C.length) (hc : okCl (cg C i)) (hu : (cg C i).2.2.1 ≠ 0) (hst : ∀ m, m < 1000 → M.1 90 m = nI (st m)) (h3 : ∀ m, m < 1000 → st m < 3) (hn : n < 1000) (hF : 3000 < F) : Mod_stateOf F (nI (12 * t + i)) (nI n) M = some (nI (stP st n (cg C i).2.2.1 (cg C i).2.2.2 1), M) := by
  have ct := hC.2 i hi
  have uu : 2 ≤ (cg C i).2.2.1 ∧ (cg C i).2.2.1 ≤ 500 := by
    rcases hc.2.2.1 with y | y
    · exact absurd y.1 hu
    · exact y
  have c36 : 12 * t + i < 36 := by omega
  generalize cg C i = cl at *
  generalize 12 * t + i = c at *
  have p8 := ct.2.2.2.1
  have i8 : (8 : Int32) * nI c = nI (8 * c) := by rw [show (8 : Int32) = nI 8 from rfl, pk_mul]
  have key := loopN_inv (body := Mod_stateOf_B8 F (nI c) (nI n)) (I := fun j s => ∃ v, s = (nI v, nI (8 * c + j), M) ∧ v < 3 ∧ stP st n cl.2.2.1 (cl.2.2.2.drop j) v = stP st n cl.2.2.1 cl.2.2.2 1) (Qx := fun q => q = (1, nI (stP st n cl.2.2.1 cl.2.2.2 1), 0, M)) (N := cl.2.2.2.length) (F := F) (s := (1, nI (8 * c), M)) (fun j s hj hs => by
    obtain ⟨v, rfl, v3, hv⟩ := hs
    have kq := (ct.2.2.2.2.2 j hj).1.1
    have okq := hc.2.2.2.2 _ (pg_mem hj)
    have th := thereM (F := F) (n := n) ct hj c36 uu hn
    have nm := numM (F := F) (n := n) ct hj c36 uu hn
    have q3 := stQ_3 h3 (n := n) (u := cl.2.2.1) (q := pg cl.2.2.2 j)
    rw [drop_p hj, stP_c] at hv
    have eq : stQ st n cl.2.2.1 (pg cl.2.2.2 j) = if (pg cl.2.2.2 j).1 = 0 then 1 else if thr (pg cl.2.2.2 j) n cl.2.2.1 = true then (if askN (pg cl.2.2.2 j).1 n cl.2.2.1 < 1000 then st (askN (pg cl.2.2.2 j).1 n cl.2.2.1) else 2) else 1 := rfl
    have j74 : ∀ o, o < 3 → Mod_stateOf_J74 F (nI c) (nI n) (nI v) (nI (8 * c + j)) (nI o) M = some (0, nI (stC v o), nI (8 * c + (j + 1)), M) := fun o ho => by
      unfold Mod_stateOf_J74 stC
      dsimp only [lt]
      rw [nI_1]
      by_cases c1 : o = 2
      · rw [if_pos (show nI o = 2 by rw [c1]; rfl), if_pos (Or.inl c1)]; rfl
      · rw [if_neg (show ¬ nI o = 2 from fun z => c1 ((nI_eq (b := 2) (by omega) (by decide)).mp z))]
        by_cases c2 : v = 2
        · rw [if_pos (show nI v = 2 by rw [c2]; rfl), if_pos (Or.inr c2)]; rfl
        · rw [if_neg (show ¬ nI v = 2 from fun z => c2 ((nI_eq (b := 2) (by omega) (by decide)).mp z)), if_neg (show ¬ (o = 2 ∨ v = 2) by omega)]
          by_cases c3 : o = 0
          · rw [if_pos (show nI o = 0 by rw [c3]; rfl), if_pos c3]; rfl
          · rw [if_neg (show ¬ nI o = 0 from fun z => c3 ((nI_eq (b := 0) (by omega) (by decide)).mp z)), if_neg c3]; rfl
    have go : Mod_stateOf_B8 F (nI c) (nI n) (nI v, nI (8 * c + j), M) = some (0, nI (stC v (stQ st n cl.2.2.1 (pg cl.2.2.2 j))), nI (8 * c + (j + 1)), M) := by
      unfold Mod_stateOf_B8
      dsimp only [lt]
      rw [if_pos (inb_nI c36 (by decide)), nI_clamp (by omega), ct.2.2.2.2.1, i8, nI_add, if_neg (nI_ge (by omega) (by omega)), if_pos (inb_nI (by omega) (by decide)), nI_clamp (by omega), kq, nI_1, eq]
      by_cases q0 : (pg cl.2.2.2 j).1 = 0
      · rw [if_pos (show nI (kM (pg cl.2.2.2 j).1) = 0 by rw [q0]; rfl), if_pos q0, stC_1 v3]; rfl
      · have kk : isK (pg cl.2.2.2 j).1 = true := by
          rcases okq with y | y
          · exact absurd y.1 q0
          · exact y.1
        have k5 := kM_K kk
        rw [if_neg (show ¬ nI (kM (pg cl.2.2.2 j).1) = 0 from fun z => by have := (nI_eq (b := 0) (by omega) (by decide)).mp z; omega), if_neg q0, th, Option.bind_some]
        dsimp only
        cases et : thr (pg cl.2.2.2 j) n cl.2.2.1 with
        | false => rw [if_pos (show bI false = 0 from rfl), if_neg (show ¬ false = true by decide), stC_1 v3]; rfl
        | true =>
          rw [if_neg (show ¬ bI true = 0 by decide), if_pos (show true = true from rfl), nm kk, Option.bind_some]
          dsimp only
          rw [Mod_isNumber_ok, Option.bind_some]
          dsimp only
          have ab := ask_b (k := (pg cl.2.2.2 j).1) hn uu
          by_cases c1 : askN (pg cl.2.2.2 j).1 n cl.2.2.1 < 1000
          · rw [inb_nI c1 (by decide), if_neg (show ¬ bI true = 0 by decide), if_pos rfl, if_pos c1, nI_clamp (by omega), hst _ c1]
            exact j74 _ (h3 _ c1)
          · have ib : inb (nI (askN (pg cl.2.2.2 j).1 n cl.2.2.1)) 1000 = false := by
              cases z : inb (nI (askN (pg cl.2.2.2 j).1 n cl.2.2.1)) 1000 with
              | false => rfl
              | true =>
                obtain ⟨y, y1, y2⟩ := inb_of z (by decide)
                have := (nI_eq (by omega) (by omega)).mp y2
                omega
            rw [ib, if_pos (show bI false = 0 from rfl), if_neg c1]
            exact j74 2 (by decide)
    exact Or.inl ⟨_, go, _, rfl, stC_3 v3 q3, hv⟩) (fun s hs => by
    obtain ⟨v, rfl, v3, hv⟩ := hs
    rw [List.drop_length] at hv
    have hv : v = _ := hv
    refine ⟨_, ?_, (fun q => by cases q), rfl⟩
    unfold Mod_stateOf_B8
    dsimp only
    rw [if_pos (inb_nI c36 (by decide)), nI_clamp (by omega), ct.2.2.2.2.1, i8, nI_add, if_pos (nI_le (Nat.le_refl _) (by omega)), hv]) (by omega) ⟨1, rfl, by decide, rfl⟩
  obtain ⟨q, e, rfl⟩ := key
  unfold Mod_stateOf
  dsimp only [lt]
  rw [i8, e, Option.bind_some]
  rfl

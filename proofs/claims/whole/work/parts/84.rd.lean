/-! the class makes names: clauses chosen -/
theorem chD_s (C : List Cls) (n j : Nat) : chD C n (j + 1) = if (cg C (C.length - 1 - j)).2.2.1 ≠ 0 ∧ (cg C (C.length - 1 - j)).1 ≤ n ∧ n ≤ (cg C (C.length - 1 - j)).2.1 then some (C.length - 1 - j) else chD C n j := rfl
theorem chU_s (C : List Cls) (n j : Nat) : chU C n (j + 1) = if (cg C j).2.2.1 = 0 ∧ (cg C j).1 = n then some j else chU C n j := rfl
def f49 (M M1 : zM) : Prop := (∀ b, b ≠ 49 → M1.1 b = M.1 b) ∧ M1.2 = M.2
theorem chi_ok {F i : Nat} {C : List Cls} {M : zM} (hC : CX C M) (hi : i < C.length) (h12 : C.length ≤ 12) (hc : okCl (cg C i)) (hF : 3000 < F) : ∃ M1, Nam_choose F (nI i) M = some ((), M1) ∧ f49 M M1 ∧ ∀ n, n < 1000 → M1.1 49 n = if (cg C i).1 ≤ n ∧ n ≤ (cg C i).2.1 then nI i else M.1 49 n := by
  obtain ⟨v0, v1, v2, v3, v4, v5⟩ := hC.2 i hi
  have c1 := hc.1
  have c2 := hc.2.1
  generalize cg C i = c at *
  have key := loopN_inv (body := Nam_choose_B10 F (nI i)) (I := fun j s => ∃ M1, s = (nI (c.1 + j), M1) ∧ f49 M M1 ∧ (j ≠ 0 → c.1 + j ≤ c.2.1 + 1) ∧ ∀ n, n < 1000 → M1.1 49 n = if c.1 ≤ n ∧ n < c.1 + j then nI i else M.1 49 n) (Qx := fun q => ∃ M1, q = (1, 0, M1) ∧ f49 M M1 ∧ ∀ n, n < 1000 → M1.1 49 n = if c.1 ≤ n ∧ n ≤ c.2.1 then nI i else M.1 49 n) (N := c.2.1 + 1 - c.1) (F := F) (s := (nI c.1, M)) (fun j s hj hs => by
    obtain ⟨M1, rfl, f1, hb, g1⟩ := hs
    refine Or.inl ?_
    unfold Nam_choose_B10
    dsimp only [lt]
    rw [if_pos (inb_nI (by omega) (by decide)), nI_clamp (by omega), f1.1 5 (by decide), v2, if_neg (nI_nlt (by omega) (by omega)), if_neg (show ¬ (1000 : Int32) ≤ nI (c.1 + j) from nI_ge (b := 1000) (by omega) (by decide)), if_pos (inb_nI (by omega) (by decide)), nI_clamp (by omega), nI_1]
    refine ⟨_, rfl, _, rfl, ⟨fun b hb => (zI_other hb).trans (f1.1 b hb), f1.2⟩, fun _ => by omega, fun n hn => ?_⟩
    by_cases z : n = c.1 + j
    · rw [z, zI_in, if_pos (by omega)]
    · rw [zI_ne (Or.inr z), g1 n hn]
      by_cases y : c.1 ≤ n ∧ n < c.1 + j
      · rw [if_pos y, if_pos (by omega)]
      · rw [if_neg y, if_neg (by omega)]) (fun s hs => by
    obtain ⟨M1, rfl, f1, hb, g1⟩ := hs
    refine ⟨(1, 0, M1), ?_, (fun q => by cases q), M1, rfl, f1, fun n hn => ?_⟩
    · unfold Nam_choose_B10
      dsimp only
      rw [if_pos (inb_nI (by omega) (by decide)), nI_clamp (by omega), f1.1 5 (by decide), v2, if_pos (nI_lt (by omega) (by omega))]
    · rw [g1 n hn]
      by_cases y : c.1 ≤ n ∧ n ≤ c.2.1
      · rw [if_pos y, if_pos (by omega)]
      · rw [if_neg y, if_neg (by omega)]) (by omega) ⟨M, rfl, ⟨fun _ _ => rfl, rfl⟩, fun q => absurd rfl q, fun n hn => by rw [if_neg (by omega)]⟩
  obtain ⟨q, e, M1, rfl, r⟩ := key
  refine ⟨M1, ?_, r⟩
  unfold Nam_choose
  dsimp only [lt]
  rw [if_pos (inb_nI (by omega) (by decide)), nI_clamp (by omega), v1, e, Option.bind_some]
  rfl
theorem isWd_ok {F i : Nat} {C : List Cls} {M : zM} (hC : CX C M) (hi : i < C.length) (h12 : C.length ≤ 12) (hc : okCl (cg C i)) : Cla_isWord F (nI i) M = some (bI (decide ((cg C i).2.2.1 = 0)), M) := by
  obtain ⟨v0, v1, v2, v3, v4, v5⟩ := hC.2 i hi
  have ui : (cg C i).2.2.1 ≤ 500 := by rcases hc.2.2.1 with q | q <;> omega
  unfold Cla_isWord
  rw [if_pos (inb_nI (by omega) (by decide)), nI_clamp (by omega), v3]
  by_cases c : (cg C i).2.2.1 = 0
  · rw [if_pos (show nI (cg C i).2.2.1 = 0 by rw [c]; rfl), n1, decide_eq_true c]; rfl
  · rw [if_neg (show ¬ nI (cg C i).2.2.1 = 0 from fun z => c ((nI_eq (b := 0) (by omega) (by decide)).mp z)), n0, decide_eq_false c]; rfl
theorem chs_ok {F : Nat} {C : List Cls} {M : zM} (hC : CX C M) (h12 : C.length ≤ 12) (hok : ∀ c ∈ C, okCl c) (hF : 3000 < F) : ∃ M1, Nam_chooseClauses F M = some ((), M1) ∧ f49 M M1 ∧ ∀ n, n < 1000 → M1.1 49 n = oI (chs C n) := by
  have fi := fill_ok (F := F) (a := 49) (x := -1) (M := M) (by decide) (Nat.lt_trans (show zN 49 < 3000 by decide) hF)
  have cx : ∀ M1, f49 M M1 → CX C M1 := fun M1 f => hC.same (fun b b1 b2 => ⟨f.1 b (by omega), by rw [f.2]⟩)
  have f0 : f49 M (zFill M 49 (zN 49) (-1)) := ⟨fun b hb => zFill_other hb, rfl⟩
  have okc : ∀ i, i < C.length → okCl (cg C i) := fun i hi => hok _ (cg_mem hi)
  have k1 := loopN_inv (body := Nam_chooseClauses_B18 F) (I := fun j s => ∃ M1, s = (nI (C.length - j) - 1, M1) ∧ f49 M M1 ∧ ∀ n, n < 1000 → M1.1 49 n = oI (chD C n j)) (Qx := fun q => ∃ M1, q = (1, 0, M1) ∧ f49 M M1 ∧ ∀ n, n < 1000 → M1.1 49 n = oI (chD C n C.length)) (N := C.length) (F := F) (s := (nI C.length - 1, zFill M 49 (zN 49) (-1))) (fun j s hj hs => by
    obtain ⟨M1, rfl, f1, g1⟩ := hs
    have ej : nI (C.length - j) - 1 = nI (C.length - 1 - j) := by rw [show nI (C.length - j) - 1 = nI (C.length - j - 1) from pk_sub (b := 1) (by omega)]; congr 1; omega
    have en : nI (C.length - 1 - j) + (-1) = nI (C.length - (j + 1)) - 1 := by rw [show C.length - (j + 1) = C.length - 1 - j by omega, Int32.sub_eq_add_neg]
    have hi : C.length - 1 - j < C.length := by omega
    refine Or.inl ?_
    unfold Nam_chooseClauses_B18
    dsimp only [lt]
    rw [ej, if_neg (nI_pos (by omega)), isWd_ok (cx M1 f1) hi h12 (okc _ hi), Option.bind_some]
    dsimp only
    by_cases c : (cg C (C.length - 1 - j)).2.2.1 = 0
    · rw [decide_eq_true c, if_neg (show ¬ bI true = 0 by decide), en]
      refine ⟨_, rfl, M1, rfl, f1, fun n hn => ?_⟩
      rw [g1 n hn, chD_s, if_neg (fun z => z.1 c)]
    · obtain ⟨M2, q1, q2, q3⟩ := chi_ok (F := F) (cx M1 f1) hi h12 (okc _ hi) hF
      rw [decide_eq_false c, if_pos (show bI false = 0 from rfl), q1, Option.bind_some, en]
      refine ⟨_, rfl, M2, rfl, ⟨fun b hb => (q2.1 b hb).trans (f1.1 b hb), q2.2.trans f1.2⟩, fun n hn => ?_⟩
      rw [q3 n hn, g1 n hn, chD_s]
      by_cases y : (cg C (C.length - 1 - j)).1 ≤ n ∧ n ≤ (cg C (C.length - 1 - j)).2.1
      · rw [if_pos y, if_pos ⟨c, y⟩]; rfl
      · rw [if_neg y, if_neg (fun z => y z.2)]) (fun s hs => by
    obtain ⟨M1, rfl, f1, g1⟩ := hs
    refine ⟨(1, 0, M1), ?_, (fun q => by cases q), M1, rfl, f1, g1⟩
    unfold Nam_chooseClauses_B18
    dsimp only
    rw [Nat.sub_self, if_pos (by decide)]) (by omega) ⟨_, by rw [Nat.sub_zero], f0, fun n hn => zFill_in hn⟩
  obtain ⟨q, e1, M1, rfl, f1, g1⟩ := k1
  have k2 := loopN_inv (body := Nam_chooseClauses_B46 F) (I := fun j s => ∃ M2, s = (nI j, M2) ∧ f49 M M2 ∧ ∀ n, n < 1000 → M2.1 49 n = oI (chU C n j)) (Qx := fun q => ∃ M2, q = (1, 0, M2) ∧ f49 M M2 ∧ ∀ n, n < 1000 → M2.1 49 n = oI (chU C n C.length)) (N := C.length) (F := F) (s := (0, M1)) (fun j s hj hs => by
    obtain ⟨M2, rfl, f2, g2⟩ := hs
    refine Or.inl ?_
    unfold Nam_chooseClauses_B46 Cla_count
    dsimp only [lt]
    rw [Option.bind_some, (cx M2 f2).1]
    dsimp only
    rw [if_neg (nI_ge hj (by omega)), isWd_ok (cx M2 f2) hj h12 (okc _ hj), Option.bind_some]
    dsimp only
    by_cases c : (cg C j).2.2.1 = 0
    · obtain ⟨M3, q1, q2, q3⟩ := chi_ok (F := F) (cx M2 f2) hj h12 (okc _ hj) hF
      have ef : (cg C j).1 = (cg C j).2.1 := by
        rcases (okc _ hj).2.2.1 with y | y
        · exact y.2.1
        · omega
      rw [decide_eq_true c, if_neg (show ¬ bI true = 0 by decide), q1, Option.bind_some, nI_1]
      refine ⟨_, rfl, M3, rfl, ⟨fun b hb => (q2.1 b hb).trans (f2.1 b hb), q2.2.trans f2.2⟩, fun n hn => ?_⟩
      rw [q3 n hn, g2 n hn, chU_s]
      by_cases y : (cg C j).1 = n
      · rw [if_pos (by omega), if_pos ⟨c, y⟩]; rfl
      · rw [if_neg (by omega), if_neg (fun z => y z.2)]
    · rw [decide_eq_false c, if_pos (show bI false = 0 from rfl), nI_1]
      refine ⟨_, rfl, M2, rfl, f2, fun n hn => ?_⟩
      rw [g2 n hn, chU_s, if_neg (fun z => c z.1)]) (fun s hs => by
    obtain ⟨M2, rfl, f2, g2⟩ := hs
    refine ⟨(1, 0, M2), ?_, (fun q => by cases q), M2, rfl, f2, g2⟩
    unfold Nam_chooseClauses_B46 Cla_count
    dsimp only
    rw [Option.bind_some, (cx M2 f2).1]
    dsimp only
    rw [if_pos (nI_le (Nat.le_refl _) (by omega))]) (by omega) ⟨M1, rfl, f1, g1⟩
  obtain ⟨q, e2, M2, rfl, f2, g2⟩ := k2
  refine ⟨M2, ?_, f2, g2⟩
  unfold Nam_chooseClauses Cla_count
  rw [fi, Option.bind_some]
  dsimp only [lt]
  rw [Option.bind_some, (cx _ f0).1]
  dsimp only
  rw [e1, Option.bind_some]
  dsimp only
  rw [if_pos rfl, e2, Option.bind_some]
  rfl
/-! a name is put -/
def upN (N : Nat → Option Nm) (n : Nat) (x : Nm) (m : Nat) : Option Nm := if m = n then some x else N m
theorem flN_up {N : Nat → Option Nm} {n : Nat} {x : Nm} (h : N n = none) : ∀ k, (flN (fun m => (upN N n x m).isSome) k).length = (flN (fun m => (N m).isSome) k).length + (if n < k then 1 else 0) := by
  intro k
  induction k with
  | zero => rfl
  | succ k ih =>
    rw [flN_s, flN_s]
    by_cases c : k = n
    · subst c
      have e1 : (upN N k x k).isSome = true := by unfold upN; rw [if_pos rfl]; rfl
      rw [if_pos e1, if_neg (by rw [h]; decide), List.length_append, ih, if_neg (Nat.lt_irrefl k), if_pos (Nat.lt_succ_self k)]
      rfl
    · have e1 : upN N n x k = N k := by unfold upN; rw [if_neg c]
      rw [e1]
      by_cases d : (N k).isSome = true
      · rw [if_pos d, if_pos d, List.length_append, List.length_append, ih]
        by_cases z : n < k
        · rw [if_pos z, if_pos (by omega)]; omega
        · rw [if_neg z, if_neg (by omega)]; omega
      · rw [if_neg d, if_neg d, ih]
        by_cases z : n < k
        · rw [if_pos z, if_pos (by omega)]
        · rw [if_neg z, if_neg (by omega)]
theorem named_up {N : Nat → Option Nm} {n : Nat} {x : Nm} (h : N n = none) (hn : n < 1000) : (named (0, upN N n x)).length = (named (0, N)).length + 1 := by
  rw [named_fl, named_fl]
  have := flN_up (N := N) (x := x) h 1000
  rw [if_pos hn] at this
  exact this
def fN (t : Nat) (M0 M : zM) : Prop := ∀ b, (b < 14 + 10 * t ∨ 14 + 10 * t + 8 < b) → (b < 44 ∨ 49 < b) → M.1 b = M0.1 b ∧ M.2 b = M0.2 b
def NB (t : Nat) (C : List Cls) (N : Nat → Option Nm) (M0 M : zM) : Prop := CX C M ∧ (∀ n, n < 1000 → XN (14 + 10 * t) n (N n) M) ∧ (∀ n, n < 1000 → M.1 49 n = oI (chs C n)) ∧ M.1 (14 + 10 * t) 0 = nI C.length ∧ M.1 (14 + 10 * t) 1 = nI (named (0, N)).length ∧ M.1 (14 + 10 * t) 9 = 0 ∧ M.1 (14 + 10 * t) 10 = 0 ∧ fN t M0 M
theorem NB.fS {t : Nat} {C : List Cls} {N : Nat → Option Nm} {M0 M M1 : zM} (h : NB t C N M0 M) (ht : t < 3) (f : fS M M1) : NB t C N M0 M1 := by
  obtain ⟨h1, h2, h3, h4, h5, h6, h7, h8⟩ := h
  have ea := f.1 (14 + 10 * t) (by omega) (by omega) (by omega)
  exact ⟨h1.same (fun b b1 b2 => ⟨f.1 b (by omega) (by omega) (by omega), f.2 b (by omega) (by omega)⟩), fun n hn => (h2 n hn).fS ht f, fun n hn => by rw [f.1 49 (by decide) (by decide) (by decide)]; exact h3 n hn, by rw [ea]; exact h4, by rw [ea]; exact h5, by rw [ea]; exact h6, by rw [ea]; exact h7, fun b b1 b2 => ⟨(f.1 b (by omega) (by omega) (by omega)).trans (h8 b b1 b2).1, (f.2 b (by omega) (by omega)).trans (h8 b b1 b2).2⟩⟩
theorem put_ok {F t n i d : Nat} {C : List Cls} {N : Nat → Option Nm} {w : List Nat} {M0 M : zM} (h : NB t C N M0 M) (ht : t < 3) (hn : n < 1000) (hi : i < 12) (hd : d < 8) (hno : N n = none) (s : SL w d M) (hF : 3000 < F) : ∃ M1, Ton_putName F (14 + 10 * t) (nI n) 45 47 (nI i) (nI (d + 1)) M = some ((), M1) ∧ NB t C (upN N n (w, i, d + 1)) M0 M1 := by
  obtain ⟨h1, h2, h3, h4, h5, h6, h7, h8⟩ := h
  obtain ⟨s1, s2, s3⟩ := s
  have hz := zN_tn ht
  have e1 := sput_ok (F := F) (a := 14 + 10 * t + 1) (n := n) (b := 45) (M := M) (by omega) (by omega) (by omega) hF
  generalize eM1 : zPut M (14 + 10 * t + 1 + 1) (5 * n) (fun i => M.2 (45 + 1) i) 5 = M1 at *
  have e2 := sput_ok (F := F) (a := 14 + 10 * t + 3) (n := n) (b := 47) (M := M1) (by omega) (by omega) (by omega) hF
  have a1 : M1.1 = M.1 := by rw [← eM1]; exact zPut_1 5
  have a2 : ∀ b, b ≠ 14 + 10 * t + 1 + 1 → M1.2 b = M.2 b := fun b hb => by rw [← eM1]; exact zPut_o hb 5
  have a3 : ∀ j, j < 5 → M1.2 (14 + 10 * t + 1 + 1) (5 * n + j) = pk w j := fun j hj => by rw [← eM1, zPut_v 5 j hj]; exact s1.2.2 j hj
  have a4 : ∀ k, (k < 5 * n ∨ 5 * n + 5 ≤ k) → M1.2 (14 + 10 * t + 1 + 1) k = M.2 (14 + 10 * t + 1 + 1) k := fun k hk => by rw [← eM1]; exact zPut_w 5 hk
  generalize eM2 : zPut M1 (14 + 10 * t + 3 + 1) (5 * n) (fun i => M1.2 (47 + 1) i) 5 = M2 at *
  have b1 : M2.1 = M.1 := by rw [← eM2]; exact (zPut_1 5).trans a1
  have b2 : ∀ b, b ≠ 14 + 10 * t + 3 + 1 → M2.2 b = M1.2 b := fun b hb => by rw [← eM2]; exact zPut_o hb 5
  have b3 : ∀ j, j < 5 → M2.2 (14 + 10 * t + 3 + 1) (5 * n + j) = pk (runW w) j := fun j hj => by rw [← eM2, zPut_v 5 j hj]; show M1.2 48 j = _; rw [a2 48 (by omega)]; exact s2.2.2 j hj
  have b4 : ∀ k, (k < 5 * n ∨ 5 * n + 5 ≤ k) → M2.2 (14 + 10 * t + 3 + 1) k = M1.2 (14 + 10 * t + 3 + 1) k := fun k hk => by rw [← eM2]; exact zPut_w 5 hk
  refine ⟨zI (zI (zI (zI (zI M2 (14 + 10 * t + 5) n (nI w.length)) (14 + 10 * t + 6) n (nI (runW w).length)) (14 + 10 * t + 7) n (nI (d + 1))) (14 + 10 * t + 8) n (nI i)) (14 + 10 * t) 1 (nI ((named (0, N)).length + 1)), ?_, ?_⟩
  · unfold Ton_putName Lin_size
    rw [if_neg (nI_pos (by omega)), if_neg (show ¬ (1000 : Int32) ≤ nI n from nI_ge (b := 1000) hn (by decide)), e1, Option.bind_some]
    dsimp only [lt]
    rw [e2, Option.bind_some]
    dsimp only
    rw [Option.bind_some, if_pos (inb_nI hn (by decide)), nI_clamp (by omega), b1, s1.2.1]
    dsimp only
    rw [Option.bind_some]
    dsimp only
    have g : ∀ X : zM, X.1 47 1 = M.1 47 1 → X.1 47 1 = nI (runW w).length := fun X q => q.trans s2.2.1
    rw [g (zI M2 (14 + 10 * t + 5) n (nI w.length)) (by rw [zI_other (by omega), b1])]
    have g2 : (zI (zI (zI (zI M2 (14 + 10 * t + 5) n (nI w.length)) (14 + 10 * t + 6) n (nI (runW w).length)) (14 + 10 * t + 7) n (nI (d + 1))) (14 + 10 * t + 8) n (nI i)).1 (14 + 10 * t) 1 = nI (named (0, N)).length := by rw [zI_other (by omega), zI_other (by omega), zI_other (by omega), zI_other (by omega), b1]; exact h5
    rw [g2, nI_1]
  · have fo : ∀ b, b ≠ 14 + 10 * t → (b < 14 + 10 * t + 5 ∨ 14 + 10 * t + 8 < b) → (zI (zI (zI (zI (zI M2 (14 + 10 * t + 5) n (nI w.length)) (14 + 10 * t + 6) n (nI (runW w).length)) (14 + 10 * t + 7) n (nI (d + 1))) (14 + 10 * t + 8) n (nI i)) (14 + 10 * t) 1 (nI ((named (0, N)).length + 1))).1 b = M.1 b := fun b q1 q2 => by rw [zI_other q1, zI_other (by omega), zI_other (by omega), zI_other (by omega), zI_other (by omega), b1]
    have fa : ∀ k, k ≠ 1 → (zI (zI (zI (zI (zI M2 (14 + 10 * t + 5) n (nI w.length)) (14 + 10 * t + 6) n (nI (runW w).length)) (14 + 10 * t + 7) n (nI (d + 1))) (14 + 10 * t + 8) n (nI i)) (14 + 10 * t) 1 (nI ((named (0, N)).length + 1))).1 (14 + 10 * t) k = M.1 (14 + 10 * t) k := fun k hk => by rw [zI_ne (Or.inr hk), zI_other (by omega), zI_other (by omega), zI_other (by omega), zI_other (by omega), b1]
    have f5 : ∀ m, (zI (zI (zI (zI (zI M2 (14 + 10 * t + 5) n (nI w.length)) (14 + 10 * t + 6) n (nI (runW w).length)) (14 + 10 * t + 7) n (nI (d + 1))) (14 + 10 * t + 8) n (nI i)) (14 + 10 * t) 1 (nI ((named (0, N)).length + 1))).1 (14 + 10 * t + 5) m = if m = n then nI w.length else M.1 (14 + 10 * t + 5) m := fun m => by
      rw [zI_other (by omega), zI_other (by omega), zI_other (by omega), zI_other (by omega)]
      by_cases c : m = n
      · rw [if_pos c, c, zI_in]
      · rw [if_neg c, zI_ne (Or.inr c), b1]
    have f6 : ∀ m, (zI (zI (zI (zI (zI M2 (14 + 10 * t + 5) n (nI w.length)) (14 + 10 * t + 6) n (nI (runW w).length)) (14 + 10 * t + 7) n (nI (d + 1))) (14 + 10 * t + 8) n (nI i)) (14 + 10 * t) 1 (nI ((named (0, N)).length + 1))).1 (14 + 10 * t + 6) m = if m = n then nI (runW w).length else M.1 (14 + 10 * t + 6) m := fun m => by
      rw [zI_other (by omega), zI_other (by omega), zI_other (by omega)]
      by_cases c : m = n
      · rw [if_pos c, c, zI_in]
      · rw [if_neg c, zI_ne (Or.inr c), zI_other (by omega), b1]
    have f7 : ∀ m, (zI (zI (zI (zI (zI M2 (14 + 10 * t + 5) n (nI w.length)) (14 + 10 * t + 6) n (nI (runW w).length)) (14 + 10 * t + 7) n (nI (d + 1))) (14 + 10 * t + 8) n (nI i)) (14 + 10 * t) 1 (nI ((named (0, N)).length + 1))).1 (14 + 10 * t + 7) m = if m = n then nI (d + 1) else M.1 (14 + 10 * t + 7) m := fun m => by
      rw [zI_other (by omega), zI_other (by omega)]
      by_cases c : m = n
      · rw [if_pos c, c, zI_in]
      · rw [if_neg c, zI_ne (Or.inr c), zI_other (by omega), zI_other (by omega), b1]
    have f8 : ∀ m, (zI (zI (zI (zI (zI M2 (14 + 10 * t + 5) n (nI w.length)) (14 + 10 * t + 6) n (nI (runW w).length)) (14 + 10 * t + 7) n (nI (d + 1))) (14 + 10 * t + 8) n (nI i)) (14 + 10 * t) 1 (nI ((named (0, N)).length + 1))).1 (14 + 10 * t + 8) m = if m = n then nI i else M.1 (14 + 10 * t + 8) m := fun m => by
      rw [zI_other (by omega)]
      by_cases c : m = n
      · rw [if_pos c, c, zI_in]
      · rw [if_neg c, zI_ne (Or.inr c), zI_other (by omega), zI_other (by omega), zI_other (by omega), b1]
    have f2 : (zI (zI (zI (zI (zI M2 (14 + 10 * t + 5) n (nI w.length)) (14 + 10 * t + 6) n (nI (runW w).length)) (14 + 10 * t + 7) n (nI (d + 1))) (14 + 10 * t + 8) n (nI i)) (14 + 10 * t) 1 (nI ((named (0, N)).length + 1))).2 = M2.2 := rfl
    have f1 : (zI (zI (zI (zI (zI M2 (14 + 10 * t + 5) n (nI w.length)) (14 + 10 * t + 6) n (nI (runW w).length)) (14 + 10 * t + 7) n (nI (d + 1))) (14 + 10 * t + 8) n (nI i)) (14 + 10 * t) 1 (nI ((named (0, N)).length + 1))).1 (14 + 10 * t) 1 = nI ((named (0, N)).length + 1) := zI_in
    generalize zI (zI (zI (zI (zI M2 (14 + 10 * t + 5) n (nI w.length)) (14 + 10 * t + 6) n (nI (runW w).length)) (14 + 10 * t + 7) n (nI (d + 1))) (14 + 10 * t + 8) n (nI i)) (14 + 10 * t) 1 (nI ((named (0, N)).length + 1)) = M3 at *
    have g2 : ∀ b, b ≠ 14 + 10 * t + 1 + 1 → b ≠ 14 + 10 * t + 3 + 1 → M3.2 b = M.2 b := fun b q1 q2 => by rw [f2, b2 b q2, a2 b q1]
    refine ⟨h1.same (fun b q1 q2 => ⟨fo b (by omega) (by omega), g2 b (by omega) (by omega)⟩), fun m hm => ?_, fun m hm => by rw [fo 49 (by omega) (by omega)]; exact h3 m hm, by rw [fa 0 (by decide)]; exact h4, ?_, by rw [fa 9 (by decide)]; exact h6, by rw [fa 10 (by decide)]; exact h7, fun b q1 q2 => ⟨(fo b (by omega) (by omega)).trans (h8 b q1 q2).1, (g2 b (by omega) (by omega)).trans (h8 b q1 q2).2⟩⟩
    · by_cases c : m = n
      · subst c
        have eu : upN N m (w, i, d + 1) m = some (w, i, d + 1) := if_pos rfl
        rw [eu]
        refine ⟨s1.1, hi, by omega, by omega, by rw [f5, if_pos rfl], by rw [f6, if_pos rfl], by rw [f7, if_pos rfl], by rw [f8, if_pos rfl], fun j hj => ?_, fun j hj => ?_⟩
        · rw [f2, b2 _ (by omega)]; exact a3 j hj
        · rw [f2]; exact b3 j hj
      · have eu : upN N n (w, i, d + 1) m = N m := if_neg c
        rw [eu]
        have hx := h2 m hm
        unfold XN at hx ⊢
        rw [f5, if_neg c, f6, if_neg c, f7, if_neg c, f8, if_neg c, f2]
        cases e : N m with
        | none => rw [e] at hx; exact hx
        | some x =>
          obtain ⟨v, b, e'⟩ := x
          rw [e] at hx
          obtain ⟨x1, x2, x3, x4, x5, x6, x7, x8, x9, x10⟩ := hx
          refine ⟨x1, x2, x3, x4, x5, x6, x7, x8, fun j hj => ?_, fun j hj => ?_⟩
          · rw [b2 _ (by omega), a4 _ (by omega)]; exact x9 j hj
          · rw [b4 _ (by omega), a2 _ (by omega)]; exact x10 j hj
    · rw [f1, named_up hno hn]

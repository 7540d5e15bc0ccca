/-! the reference reads: words, clauses, the text -/
theorem numS_r {w : List Nat} {lo hi p e v : Nat} (h : numS w lo hi p = .inr (e, v)) : lo ≤ v := by
  unfold numS at h
  by_cases c1 : enD w (skB w p) = skB w p
  · rw [if_pos c1] at h; cases h
  · rw [if_neg c1] at h
    by_cases c2 : 3 < enD w (skB w p) - skB w p ∨ dgV w (skB w p) (enD w (skB w p) - skB w p) < lo ∨ hi < dgV w (skB w p) (enD w (skB w p) - skB w p)
    · rw [if_pos c2] at h; cases h
    · rw [if_neg c2] at h
      injection h with h
      injection h with h1 h2
      omega
theorem frmS_u {w : List Nat} {p p' a b u : Nat} {ps : List Prt} (h : frmS w p = .inr (p', a, b, u, ps)) : 2 ≤ u := by
  unfold frmS headS at h
  cases d1 : numS w 0 999 p with
  | inl f => rw [d1] at h; cases h
  | inr z1 =>
    obtain ⟨p1, a'⟩ := z1
    rw [d1] at h
    dsimp only at h
    cases d2 : kwS w [116, 111] p1 with
    | inl f => rw [d2] at h; cases h
    | inr p2 =>
      rw [d2] at h
      dsimp only at h
      cases d3 : numS w a' 999 p2 with
      | inl f => rw [d3] at h; cases h
      | inr z3 =>
        obtain ⟨p3, b'⟩ := z3
        rw [d3] at h
        dsimp only at h
        cases d4 : kwS w [98, 121] p3 with
        | inl f => rw [d4] at h; cases h
        | inr p4 =>
          rw [d4] at h
          dsimp only at h
          cases d5 : numS w 2 500 p4 with
          | inl f => rw [d5] at h; cases h
          | inr z5 =>
            obtain ⟨p5, u'⟩ := z5
            have b5 := numS_r d5
            rw [d5] at h
            dsimp only at h
            cases d6 : sgS w 58 p5 with
            | inl f => rw [d6] at h; cases h
            | inr p6 =>
              rw [d6] at h
              dsimp only at h
              cases d7 : parS w 241 p6 none [] with
              | inl f => rw [d7] at h; cases h
              | inr z7 =>
                rw [d7] at h
                injection h with h
                injection h with _ h
                injection h with _ h
                injection h with _ h
                injection h with h _
                omega
def CM1 (i : Nat) (c : Cls) (M : zM) : Prop := M.1 80 i = bI (decide (c.2.2.1 = 0)) ∧ M.1 81 i = nI c.1 ∧ (c.2.2.1 ≠ 0 → M.1 82 i = nI c.2.1 ∧ M.1 83 i = nI c.2.2.1) ∧ c.2.2.2.length ≤ 8 ∧ M.1 84 i = nI c.2.2.2.length ∧ ∀ j, j < c.2.2.2.length → PM1 (8 * i + j) (pg c.2.2.2 j) M ∧ (c.2.2.1 ≠ 0 → M.1 86 (8 * i + j) = bI (pg c.2.2.2 j).2.1)
def BM (w : List Nat) (C : List Cls) (M0 M : zM) : Prop := MT w M ∧ fM M0 M ∧ Z87 M ∧ M.1 63 19 = nI C.length ∧ M.1 63 17 = -1 ∧ ∀ i, i < C.length → CM1 i (cg C i) M
theorem CM1.keep {i n : Nat} {c : Cls} {M M1 : zM} (h : CM1 i c M) (hi : i < n) (j : jM n M M1) : CM1 i c M1 := by
  obtain ⟨h1, h2, h3, h4, h5, h6⟩ := h
  refine ⟨by rw [j.2.2.2.1 80 i (by decide) (by decide) (by omega)]; exact h1, by rw [j.2.2.2.1 81 i (by decide) (by decide) (by omega)]; exact h2, fun q => ⟨by rw [j.2.2.2.1 82 i (by decide) (by decide) (by omega)]; exact (h3 q).1, by rw [j.2.2.2.1 83 i (by decide) (by decide) (by omega)]; exact (h3 q).2⟩, h4, by rw [j.2.2.2.1 84 i (by decide) (by decide) (by omega)]; exact h5, fun k hk => ?_⟩
  obtain ⟨⟨u1, u2⟩, u3⟩ := h6 k hk
  obtain ⟨v1, v2, v3⟩ := j.2.2.2.2.1 (8 * i + k) (by omega)
  refine ⟨⟨by rw [v1]; exact u1, fun q => ⟨(u2 q).1, by rw [v3]; exact (u2 q).2.1, fun x hx => ?_⟩⟩, fun q => by rw [v2]; exact u3 q⟩
  have := (u2 q).1
  rw [j.2.2.2.2.2 _ (by omega)]
  exact (u2 q).2.2 x hx
theorem tlet_sk {F p : Nat} {x : Int32} {w : List Nat} {M : zM} (hB : okB w) (hT : MT w M) (hp : p ≤ w.length) (hF : 3000 < F) : Mod_takeLetters F x (mr M p) = Mod_takeLetters F x (mr M (skB w p)) := by
  unfold Mod_takeLetters
  rw [here_ok hB hT hp hF, here_ok hB hT (show skB w p ≤ w.length from (wh_sp qB hp).2.1) hF, skB_i hp]
def wrdA (w : List Nat) (C : List Cls) (p : Nat) : Flt ⊕ (Nat × Nat × List Nat) :=
  match numS w 0 999 p with
  | .inl f => .inl f
  | .inr (p1, n) => if hasW C n = true then .inl (3, skB w p) else match letS w (skB w p1) with
    | .inl f => .inl f
    | .inr (p2, l) => .inr (p2, n, l)
theorem wrdA_s {w : List Nat} {C : List Cls} {p : Nat} : wrdS w C p = match wrdA w C p with
    | .inl f => .inl f
    | .inr (p2, n, l) => match sgS w 59 p2 with
      | .inl f => .inl f
      | .inr p3 => .inr (p3, n, n, 0, [(0, false, l)]) := by
  unfold wrdS wrdA
  cases numS w 0 999 p with
  | inl f => rfl
  | inr z =>
    obtain ⟨p1, n⟩ := z
    dsimp only
    by_cases c : hasW C n = true
    · rw [if_pos c, if_pos c]
    · rw [if_neg c, if_neg c]
      cases letS w (skB w p1) with
      | inl f => rfl
      | inr z => rfl
theorem twrd_ok {F p : Nat} {w : List Nat} {C : List Cls} {M0 M : zM} (hB : okB w) (hT : MT w M) (h : fM M0 M) (hz : Z87 M) (hC : ∀ i, i < C.length → CM1 i (cg C i) M) (hN : okN C) (hp : p ≤ w.length) (hn : C.length < 12) (hF : 3000 < F) : match wrdA w C p with
    | .inl f => ∃ M1, Mod_takeWord F (nI C.length) (mr M p) = some (nI f.1, M1) ∧ FMr M0 f M1
    | .inr z => ∃ M1, Mod_takeWord F (nI C.length) (mr M p) = some (0, mr M1 z.1) ∧ jM C.length M M1 ∧ Z87 M1 ∧ M1.1 80 = M.1 80 ∧ M1.1 81 C.length = nI z.2.1 ∧ M1.1 84 C.length = 1 ∧ PM1 (8 * C.length) (0, false, z.2.2) M1 ∧ z.1 ≤ w.length := by
  have hi := inb_nI (n := 12) hn (by decide)
  have hcl : (nI C.length).toNatClampNeg = C.length := nI_clamp (by omega)
  have j72 : ∀ (t : Flt) (M1 : zM), FMr M0 t M1 → ∃ M2, Mod_takeWord_J72 F (nI C.length) (nI t.1) M1 = some (nI t.1, M2) ∧ FMr M0 t M2 := fun t M1 ht => by
    unfold Mod_takeWord_J72
    dsimp only [lt]
    rw [if_pos hi, hcl, if_neg (npos ht.1)]
    exact ⟨_, rfl, ht.r (by decide)⟩
  unfold Mod_takeWord wrdA
  have k1 := tnum_ok (F := F) (lo := 0) (hi := 999) (p := p) hB hT h hz hp (by decide) (by decide) hF
  cases c1 : numS w 0 999 p with
  | inl f =>
    rw [c1] at k1
    obtain ⟨M1, q1, q2⟩ := k1
    have q1 : Mod_takeNumber F 0 999 (mr M p) = some (nI f.1, M1) := q1
    rw [q1, Option.bind_some]
    dsimp only [lt]
    rw [if_pos hi, hcl]
    have q3 := q2.r (b := 81) (k := C.length) (v := M1.1 63 29) (by decide)
    have lx : loopN (Mod_takeWord_B21 F (nI C.length)) F (nI f.1, 0, zI M1 81 C.length (M1.1 63 29)) = some (1, nI f.1, 0, zI M1 81 C.length (M1.1 63 29)) := by
      cases F with
      | zero => omega
      | succ G =>
        refine loopN_ex (q := (1, nI f.1, 0, zI M1 81 C.length (M1.1 63 29))) ?_ (fun q => by cases q)
        unfold Mod_takeWord_B21
        dsimp only
        rw [if_neg (nz q2.1)]
        split <;> rfl
    rw [lx, Option.bind_some]
    exact j72 f _ q3
  | inr z1 =>
    obtain ⟨p1, v⟩ := z1
    have b1 := numS_le hp c1
    rw [c1] at k1
    obtain ⟨M1, q1, q2, q3, q4⟩ := k1
    have q1 : Mod_takeNumber F 0 999 (mr M p) = some (0, mr M1 p1) := q1
    dsimp only at q3
    rw [q1, Option.bind_some]
    dsimp only [lt]
    rw [if_pos hi, hcl, zI_mr (by decide), mr_1 (by decide), q3]
    have j1 : jM C.length M (zI M1 81 C.length (nI v)) := (q2.h (n := C.length)).j.z (by decide)
    have r81 : (zI M1 81 C.length (nI v)).1 81 C.length = nI v := zI_in
    have r80 : (zI M1 81 C.length (nI v)).1 80 = M.1 80 := (zI_other (by decide)).trans (q2.1 80 (by decide))
    have r29 : (zI M1 81 C.length (nI v)).1 63 29 = nI v := (congrFun (zI_other (by decide)) 29).trans q3
    have r30 : (zI M1 81 C.length (nI v)).1 63 30 = nI (skB w p) := (congrFun (zI_other (by decide)) 30).trans q4
    have z1' : Z87 (zI M1 81 C.length (nI v)) := hz.same ((zI_other (by decide)).trans (q2.1 87 (by decide)))
    generalize zI M1 81 C.length (nI v) = A1 at *
    have hT1 := j1.t hT
    have hf1 := j1.f h
    obtain ⟨MF, w1, w2⟩ := fails_ok (F := F) (f := 3) (pl := skB w p) (hf1.mr (p := p1)) (z1'.same (mr_o (by decide))) (by decide)
    have w1 : Mod_fails F 3 (nI (skB w p)) (mr A1 p1) = some (3, MF) := w1
    have key := loopN_inv (body := Mod_takeWord_B21 F (nI C.length)) (I := fun i s => (s = (0, nI i, mr A1 p1) ∧ ∀ j, j < i → ¬ ((cg C j).2.2.1 = 0 ∧ (cg C j).1 = v)) ∨ (s = (3, nI i, MF) ∧ hasW C v = true)) (Qx := fun q => (q = (1, 0, 0, mr A1 p1) ∧ hasW C v = false) ∨ (q = (1, 3, 0, MF) ∧ hasW C v = true)) (N := C.length) (F := F) (s := (0, 0, mr A1 p1)) (fun i s hi' hs => by
      rcases hs with ⟨rfl, g⟩ | ⟨rfl, g⟩
      · obtain ⟨v0, v1, v2, v3, v4, v5⟩ := (hC i hi').keep hi' j1
        have hc := hN.2 _ (cg_mem hi')
        refine Or.inl ?_
        unfold Mod_takeWord_B21
        dsimp only [lt]
        rw [if_neg (nI_ge hi' (by omega)), if_pos rfl, if_pos (inb_nI (by omega) (by decide)), nI_clamp (by omega), mr_o (by decide), mr_o (by decide), v0, v1, mr_1 (by decide), r29, mr_1 (by decide), r30, w1, Option.bind_some, nI_1]
        dsimp only
        by_cases d1 : (cg C i).2.2.1 = 0
        · rw [decide_eq_true d1, if_neg (show ¬ bI true = 0 by decide)]
          by_cases d2 : (cg C i).1 = v
          · rw [if_pos (by rw [d2])]
            refine ⟨_, rfl, Or.inr ⟨rfl, ?_⟩⟩
            unfold hasW
            rw [List.any_eq_true]
            exact ⟨cg C i, cg_mem hi', by rw [decide_eq_true d1, decide_eq_true d2]; rfl⟩
          · rw [if_neg (fun q => d2 ((nI_eq (by omega) (by omega)).mp q))]
            refine ⟨_, rfl, Or.inl ⟨rfl, fun j hj => ?_⟩⟩
            by_cases z : j = i
            · rw [z]; exact fun q => d2 q.2
            · exact g j (by omega)
        · rw [decide_eq_false d1, if_pos (show bI false = 0 from rfl)]
          refine ⟨_, rfl, Or.inl ⟨rfl, fun j hj => ?_⟩⟩
          by_cases z : j = i
          · rw [z]; exact fun q => d1 q.1
          · exact g j (by omega)
      · refine Or.inr ⟨(1, 3, 0, MF), ?_, (fun q => by cases q), Or.inr ⟨rfl, g⟩⟩
        unfold Mod_takeWord_B21
        dsimp only
        rw [if_neg (nI_ge hi' (by omega)), if_neg (by decide)]) (fun s hs => by
      rcases hs with ⟨rfl, g⟩ | ⟨rfl, g⟩
      · refine ⟨(1, 0, 0, mr A1 p1), ?_, (fun q => by cases q), Or.inl ⟨rfl, ?_⟩⟩
        · unfold Mod_takeWord_B21
          dsimp only
          rw [if_pos (nI_le (Nat.le_refl _) (by omega))]
        · unfold hasW
          rw [List.any_eq_false]
          intro c hc
          obtain ⟨i, hi', rfl⟩ := cg_of hc
          have := g i hi'
          rw [Bool.and_eq_true, decide_eq_true_iff, decide_eq_true_iff]
          exact this
      · refine ⟨(1, 3, 0, MF), ?_, (fun q => by cases q), Or.inr ⟨rfl, g⟩⟩
        unfold Mod_takeWord_B21
        dsimp only
        rw [if_pos (nI_le (Nat.le_refl _) (by omega))]) (by omega) (Or.inl ⟨rfl, fun j hj => absurd hj (Nat.not_lt_zero j)⟩)
    obtain ⟨q, e, hq⟩ := key
    rcases hq with ⟨rfl, g⟩ | ⟨rfl, g⟩
    · rw [e, Option.bind_some, g, if_neg (show ¬ false = true by decide)]
      dsimp only
      rw [if_pos rfl]
      unfold Mod_takeWord_J72
      dsimp only [lt]
      rw [if_pos hi, hcl, if_pos (show (0 : Int32) ≤ 0 by decide), zI_mr (by decide), show (8 : Int32) * nI C.length = nI (8 * C.length + 0) from by rw [show (8 : Int32) = nI 8 from rfl, pk_mul, Nat.add_zero]]
      have j2 : jM C.length M (zI A1 84 C.length 1) := j1.z (by decide)
      have z2' : Z87 (zI A1 84 C.length 1) := z1'.same (zI_other (by decide))
      have t81 : (zI A1 84 C.length 1).1 81 C.length = nI v := (congrFun (zI_other (by decide)) C.length).trans r81
      have t80 : (zI A1 84 C.length 1).1 80 = M.1 80 := (zI_other (by decide)).trans r80
      have t84 : (zI A1 84 C.length 1).1 84 C.length = 1 := zI_in
      generalize zI A1 84 C.length 1 = A2 at *
      have s5 : skB w p1 ≤ w.length := (wh_sp qB b1.2.1).2.1
      have k := tlet_ok (F := F) (n := C.length) (m := 0) (p := skB w p1) hB (j2.t hT) (j2.f h) z2' s5 (skB_i b1.2.1) hn (by decide) hF
      rw [tlet_sk hB (j2.t hT) b1.2.1 hF]
      cases c5 : letS w (skB w p1) with
      | inl f =>
        rw [c5] at k
        obtain ⟨M3, k1, k2⟩ := k
        rw [k1, Option.bind_some]
        exact ⟨M3, rfl, k2⟩
      | inr z5 =>
        obtain ⟨p2, l⟩ := z5
        have b5 := letS_le s5 c5
        rw [c5] at k
        obtain ⟨M3, k1, k2, k3, k4, k5, k6, k7, k8⟩ := k
        rw [k1, Option.bind_some]
        exact ⟨M3, rfl, j2.tr k2.j, k3, by rw [k2.1 80 (by decide) (by decide)]; exact t80, by rw [k2.1 81 (by decide) (by decide)]; exact t81, by rw [k4]; exact t84, k8, b5.2.1⟩
    · rw [e, Option.bind_some, g, if_pos (show true = true from rfl)]
      exact j72 (3, skB w p) MF w2
theorem tcl_ok {F p : Nat} {w : List Nat} {C : List Cls} {M0 M : zM} (hB : okB w) (h : BM w C M0 M) (hN : okN C) (hp : p ≤ w.length) (hs : skB w p = p) (hF : 3000 < F) : match clS w C p with
    | .inl f => ∃ M1, Mod_takeClause F (mr M p) = some (nI f.1, M1) ∧ FMr M0 f M1
    | .inr z => ∃ M1, Mod_takeClause F (mr M p) = some (0, mr M1 z.1) ∧ BM w (C ++ [z.2]) M0 M1 ∧ z.1 ≤ w.length ∧ C.length < 12 := by
  obtain ⟨hT, hf, hz, h19, h17, hC⟩ := h
  have h12 := hN.1
  have g1 : ∀ v : Int32, gM M (zI M 63 31 v) := fun v => ⟨fun b' hb' => zI_other hb', rfl, fun j _ _ _ k4 => zI_ne (Or.inr k4)⟩
  have k1 := coming_ok (F := F) (a := 119) (b := 111) (c := 114) (d := 100) hB hT hp (by decide) (by decide) hF
  rw [hs] at k1
  have k1 : Mod_isComing F 119 111 114 100 (mr M p) = some (bI (isW [119, 111, 114, 100] w p), mr (zI M 63 31 (nI (enL w p))) p) := k1
  have hT1 : MT w (zI M 63 31 (nI (enL w p))) := ((g1 _).h (n := 0)).t hT
  have k2 := coming_ok (F := F) (a := 102) (b := 111) (c := 114) (d := 0) hB hT1 hp (by decide) (by decide) hF
  rw [hs, zI_zI] at k2
  have k2 : Mod_isComing F 102 111 114 0 (mr (zI M 63 31 (nI (enL w p))) p) = some (bI (isW [102, 111, 114] w p), mr (zI M 63 31 (nI (enL w p))) p) := k2
  have f1 := ((g1 (nI (enL w p))).h (n := 0)).f hf
  have z1 : Z87 (zI M 63 31 (nI (enL w p))) := hz.same (zI_other (by decide))
  have b19 : (zI M 63 31 (nI (enL w p))).1 63 19 = nI C.length := (zI_ne (Or.inr (by decide))).trans h19
  have b31 : (zI M 63 31 (nI (enL w p))).1 63 31 = nI (enL w p) := zI_in
  have b17 : (zI M 63 31 (nI (enL w p))).1 63 17 = -1 := (zI_ne (Or.inr (by decide))).trans h17
  have jb : jM C.length M (zI M 63 31 (nI (enL w p))) := ((g1 _).h (n := C.length)).j
  unfold Mod_takeClause
  rw [k1, Option.bind_some]
  dsimp only
  rw [k2, Option.bind_some]
  dsimp only
  generalize zI M 63 31 (nI (enL w p)) = Mb at *
  have fl : ∀ t : Nat, (0 < t ∧ t < 7) → ∃ M1, Mod_takeClause_J56 F (nI t) (mr Mb p) = some (nI t, M1) ∧ FMr M0 (t, p) M1 := fun t ht => by
    unfold Mod_takeClause_J56
    rw [mr_p]
    obtain ⟨M1, q1, q2⟩ := fails_ok (F := F) (f := t) (pl := p) (f1.mr (p := p)) (z1.same (mr_o (by decide))) ht
    rw [q1, Option.bind_some]
    exact ⟨M1, rfl, q2⟩
  -- what stands before the clause's own words
  have j33 : ∀ x1 x2 : Bool, (x1 = true ∨ x2 = true) → (C.length = 12 → ∃ M1, Mod_takeClause_J33 F (bI x1) (bI x2) (mr Mb p) = some (nI 5, M1) ∧ FMr M0 (5, p) M1) ∧ (C.length < 12 → ∃ A, jM C.length M A ∧ Z87 A ∧ A.1 63 19 = nI C.length ∧ A.1 63 17 = -1 ∧ A.1 80 C.length = bI x1 ∧ A.1 84 C.length = 0 ∧ Mod_takeClause_J33 F (bI x1) (bI x2) (mr Mb p) = if bI x1 = 0 then (Mod_takeForm F (nI C.length) (mr A (enL w p))).bind fun (r_18, M_19) => Mod_takeClause_J115 F r_18 M_19 else (Mod_takeWord F (nI C.length) (mr A (enL w p))).bind fun (r_33, M_34) => Mod_takeClause_J115 F r_33 M_34) := fun x1 x2 hx => by
    unfold Mod_takeClause_J33
    rw [mr_1 (by decide), b19]
    refine ⟨fun q => ?_, fun q => ⟨zI (zI Mb 80 C.length (bI x1)) 84 C.length 0, (jb.z (by decide)).z (by decide), z1.same ((zI_other (by decide)).trans (zI_other (by decide))), b19, b17, by rw [zI_other (by decide), zI_in], zI_in, ?_⟩⟩
    · rw [if_pos (show nI C.length = 12 by rw [q]; rfl)]
      unfold Mod_takeClause_J42 Mod_takeClause_J55
      have f5 := fl 5 (by decide)
      cases x1 with
      | true => rw [if_neg (show ¬ bI true = 0 by decide)]; exact f5
      | false =>
        have : x2 = true := by rcases hx with y | y
                               · cases y
                               · exact y
        subst this
        rw [if_pos (show bI false = 0 from rfl), if_neg (show ¬ bI true = 0 by decide)]; exact f5
    · rw [if_neg (show ¬ nI C.length = 12 from fun y => by have := (nI_eq (b := 12) (by omega) (by decide)).mp y; omega)]
      dsimp only [lt]
      rw [mr_1 (by decide), b31, mr_m, mr_1 (by decide), b19, if_pos (inb_nI q (by decide)), nI_clamp (by omega), bI_and, zI_mr (by decide), zI_mr (by decide), mr_1 (by decide)]
      rw [show (zI Mb 80 C.length (bI x1)).1 63 19 = nI C.length from b19, if_pos (inb_nI q (by decide)), nI_clamp (by omega), mr_1 (by decide), show (zI (zI Mb 80 C.length (bI x1)) 84 C.length 0).1 63 19 = nI C.length from b19]
  -- the end of a clause
  have j115 : ∀ (A : zM) (pe : Nat) (c : Cls), jM C.length M A → Z87 A → A.1 63 19 = nI C.length → A.1 63 17 = -1 → CM1 C.length c A → pe ≤ w.length → match sgS w 59 pe with
      | .inl f => ∃ M1, Mod_takeClause_J115 F 0 (mr A pe) = some (nI f.1, M1) ∧ FMr M0 f M1
      | .inr p3 => ∃ M1, Mod_takeClause_J115 F 0 (mr A pe) = some (0, mr M1 p3) ∧ BM w (C ++ [c]) M0 M1 := fun A pe c jA zA a19 a17 cA hpe => by
    unfold Mod_takeClause_J115 sgS
    rw [if_pos (show (0 : Int32) ≤ 0 by decide), here_ok hB (jA.t hT) hpe hF, Option.bind_some]
    dsimp only [lt]
    by_cases c6 : gB w (skB w pe) = 59
    · rw [if_pos c6, if_pos (show cI w (skB w pe) = 59 from (cI_eq hB (c := 59) (by decide)).mpr c6), mr_p, nI_1, mr_m, mr_1 (by decide), a19, nI_1]
      refine ⟨zI A 63 19 (nI (C.length + 1)), ?_, ⟨⟨(zI_ne (Or.inr (by decide))).trans (jA.t hT).1, fun i hi => by rw [zI_other (by decide)]; exact (jA.t hT).2 i hi⟩, (jA.f hf).z (by decide), zA.same (zI_other (by decide)), ?_, (zI_ne (Or.inr (by decide))).trans a17, fun i hi => ?_⟩⟩
      · refine congrArg (fun z => some ((0 : Int32), z)) ?_
        refine Prod.ext (funext fun b => ?_) rfl
        by_cases cb : b = 63
        · subst cb
          funext k
          by_cases k1 : k = 19
          · rw [k1, zI_in, mr_1 (by decide), zI_in]
          · rw [zI_ne (Or.inr k1)]
            by_cases k3 : k = 18
            · rw [k3, mr_p, mr_p]
            · rw [mr_1 k3, mr_1 k3, zI_ne (Or.inr k1)]
        · rw [zI_other cb, mr_o cb, mr_o cb, zI_other cb]
      · rw [zI_in, List.length_append]; rfl
      · rw [List.length_append] at hi
        have hi : i < C.length + 1 := hi
        have tr : ∀ i c, CM1 i c A → CM1 i c (zI A 63 19 (nI (C.length + 1))) := fun i c hc => hc
        by_cases z : i = C.length
        · subst z; rw [cg_2]; exact tr _ _ cA
        · rw [cg_1 (by omega)]; exact tr _ _ ((hC i (by omega)).keep (by omega) jA)
    · rw [if_neg c6, if_neg (show ¬ cI w (skB w pe) = 59 from fun q => c6 ((cI_eq hB (c := 59) (by decide)).mp q)), mr_p]
      obtain ⟨M1, q1, q2⟩ := fails_ok (F := F) (f := 1) (pl := skB w pe) ((jA.f hf).mr (p := skB w pe)) (zA.same (mr_o (by decide))) (by decide)
      have q1 : Mod_fails F 1 (nI (skB w pe)) (mr A (skB w pe)) = some (1, M1) := q1
      rw [q1, Option.bind_some]
      exact ⟨M1, rfl, q2⟩
  have bad : ∀ (t : Flt) (M1 : zM), FMr M0 t M1 → Mod_takeClause_J115 F (nI t.1) M1 = some (nI t.1, M1) := fun t M1 ht => by
    unfold Mod_takeClause_J115
    rw [if_neg (npos ht.1)]
  have e3 : enL w p ≤ w.length := (wh_sp qL hp).2.1
  unfold clS
  cases c1 : isW [119, 111, 114, 100] w p with
  | true =>
    have l3 : enL w p = p + 4 := isW_len hp c1
    rw [if_neg (show ¬ bI true = 0 by decide), if_pos (show true = true from rfl)]
    obtain ⟨u1, u2⟩ := j33 true (isW [102, 111, 114] w p) (Or.inl rfl)
    by_cases c2 : C.length = 12
    · rw [if_pos c2]; exact u1 c2
    · rw [if_neg c2]
      obtain ⟨A, a1, a2, a3, a4, a5, a6, a7⟩ := u2 (by omega)
      rw [a7, if_neg (show ¬ bI true = 0 by decide), l3, wrdA_s]
      have k := twrd_ok (F := F) (p := p + 4) hB (a1.t hT) (a1.f hf) a2 (fun i hi => (hC i hi).keep hi a1) hN (by omega) (by omega) hF
      cases e : wrdA w C (p + 4) with
      | inl f =>
        rw [e] at k
        obtain ⟨M1, q1, q2⟩ := k
        rw [q1, Option.bind_some]
        exact ⟨M1, bad f M1 q2, q2⟩
      | inr z =>
        obtain ⟨p2, v, l⟩ := z
        rw [e] at k
        obtain ⟨M1, q1, q2, q3, q4, q5, q6, q7, q8⟩ := k
        dsimp only at q1 q5 q7 q8
        rw [q1, Option.bind_some]
        dsimp only
        have kk := j115 M1 p2 (v, v, 0, [(0, false, l)]) (a1.tr q2) q3 (by rw [q2.2.2.1 19 (by decide) (by decide) (by decide) (by decide)]; exact a3) (by rw [q2.2.2.1 17 (by decide) (by decide) (by decide) (by decide)]; exact a4) ⟨by rw [q4]; exact a5, q5, fun q => absurd rfl q, by show 1 ≤ 8; decide, q6, fun j hj => ⟨by
          have hj : j < 1 := hj
          rw [show j = 0 by omega]
          exact q7, fun q => absurd rfl q⟩⟩ q8
        cases e2 : sgS w 59 p2 with
        | inl f => rw [e2] at kk; exact kk
        | inr p3 =>
          have b3 := sgS_le (by decide) q8 e2
          rw [e2] at kk
          obtain ⟨M2, r1, r2⟩ := kk
          exact ⟨M2, r1, r2, b3.2, by omega⟩
  | false =>
    rw [if_pos (show bI false = 0 from rfl), if_neg (show ¬ false = true by decide)]
    cases c3 : isW [102, 111, 114] w p with
    | false =>
      rw [if_pos (show bI false = 0 from rfl), if_neg (show ¬ false = true by decide)]
      unfold Mod_takeClause_J42
      rw [if_pos (show bI false = 0 from rfl), if_pos (show bI false = 0 from rfl)]
      exact fl 1 (by decide)
    | true =>
      have l3 : enL w p = p + 3 := isW_len hp c3
      rw [if_neg (show ¬ bI true = 0 by decide), if_pos (show true = true from rfl)]
      obtain ⟨u1, u2⟩ := j33 false true (Or.inr rfl)
      by_cases c2 : C.length = 12
      · rw [if_pos c2]; exact u1 c2
      · rw [if_neg c2]
        obtain ⟨A, a1, a2, a3, a4, a5, a6, a7⟩ := u2 (by omega)
        rw [a7, if_pos (show bI false = 0 from rfl), l3]
        have k := form_ok (F := F) (n := C.length) (p := p + 3) hB (a1.t hT) (a1.f hf) a2 ⟨a6, fun j hj => absurd hj (Nat.not_lt_zero j)⟩ (by omega) (by omega) hF
        cases e : frmS w (p + 3) with
        | inl f =>
          rw [e] at k
          obtain ⟨M1, q1, q2⟩ := k
          rw [q1, Option.bind_some]
          exact ⟨M1, bad f M1 q2, q2⟩
        | inr z =>
          obtain ⟨p2, a, b, u, ps⟩ := z
          have ok := clS_ok (C := C) (p' := p2) (c := (a, b, u, ps)) hp (by unfold clS; rw [if_neg (by rw [c1]; decide), if_pos c3, if_neg c2, e])
          have u0 : u ≠ 0 := by have := frmS_u e; omega
          rw [e] at k
          obtain ⟨M1, s, q1, q2, q3, q4, q5, q6, q7, q8, q9, q10, q11, q12⟩ := k
          dsimp only at q1 q4 q6 q7 q8 q12
          rw [q1, Option.bind_some]
          dsimp only
          have kk := j115 M1 s (a, b, u, ps) (a1.tr q2) q3 (by rw [q2.2.2.1 19 (by decide) (by decide) (by decide) (by decide)]; exact a3) (by rw [q2.2.2.1 17 (by decide) (by decide) (by decide) (by decide)]; exact a4) ⟨by rw [q5, a5]; show bI false = bI (decide (u = 0)); rw [decide_eq_false u0], q6, fun _ => ⟨q7, q8⟩, ok.1.2.2.2.1, q4.1, fun j hj => ⟨(q4.2 j hj).1, fun _ => (q4.2 j hj).2⟩⟩ (by omega)
          unfold sgS at kk
          rw [q10, if_pos q11] at kk
          obtain ⟨M2, r1, r2⟩ := kk
          exact ⟨M2, by rw [r1, q12], r2, by show p2 ≤ w.length; omega, by omega⟩

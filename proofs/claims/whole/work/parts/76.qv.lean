/-! the reference reads: brackets, forms -/
theorem nz {t : Nat} (h : 0 < t ∧ t < 7) : ¬ nI t = 0 := fun q => by have := (nI_eq (b := 0) (by omega) (by decide)).mp q; omega
theorem brkL {F n k : Nat} {w : List Nat} {M0 : zM} (hB : okB w) (hn : n < 12) (hF : 3000 < F) : ∀ (f p : Nat) (ps : List Prt) (M : zM) (G : Nat), 241 ≤ f + p → p ≤ w.length → MT w M → fM M0 M → Z87 M → CU n ps M → k < ps.length → ps.length ≤ 8 → f + 1 < G →
    (∃ t, parS w f p (some k) ps = .inl t ∧ ∃ M1, loopN (Mod_takeBracket_B17 F (nI n)) G (0, mr M p) = some (1, nI t.1, M1) ∧ FMr M0 t M1) ∨
    (∃ f' s ps' M1, f' < f ∧ 241 ≤ f' + (s + 1) ∧ parS w f p (some k) ps = parS w f' (s + 1) none ps' ∧ loopN (Mod_takeBracket_B17 F (nI n)) G (0, mr M p) = some (1, 0, mr M1 s) ∧ hM n M M1 ∧ Z87 M1 ∧ CU n ps' M1 ∧ s < w.length ∧ 0 < ps'.length ∧ ps'.length ≤ 8) := by
  have h240 := hB.1
  intro f
  induction f with
  | zero => intro p ps M G h1 h2; omega
  | succ f ih =>
    intro p ps M G hfp hp hT h hz hc hk h8 hG
    cases G with
    | zero => omega
    | succ G =>
      have a1 := wh_sp qB hp
      have s1 : p ≤ skB w p := a1.1
      have s2 : skB w p ≤ w.length := a1.2.1
      have hh := here_ok hB hT hp hF
      have ss := skB_i hp
      rw [parS_s, if_neg (fun q => by cases q.2.1), if_neg (fun q => by cases q.2)]
      generalize skB w p = s at *
      have e93 : cI w s = 93 ↔ gB w s = 93 := cI_eq hB (c := 93) (by decide)
      by_cases c : gB w s = 93
      · refine Or.inr ⟨f, s, ps, M, by omega, by omega, if_pos ⟨c, (fun q => by cases q), hk⟩, ?_, hM.rf, hz, hc, gB_in2 c (by decide), by omega, h8⟩
        refine loopN_ex (q := (1, 0, mr M s)) ?_ (fun q => by cases q)
        unfold Mod_takeBracket_B17
        dsimp only
        rw [if_pos rfl, hh, Option.bind_some]
        dsimp only
        rw [if_pos (e93.mpr c)]
      · rw [if_neg (fun q => c q.1)]
        have kp := tprt_ok (F := F) (n := n) (p := s) (br := true) hB hT h hz hc s2 hn h8 hF
        rw [ss] at kp
        have st : Mod_takeBracket_B17 F (nI n) (0, mr M p) = (Mod_takePart F (nI n) 1 (mr M s)).bind fun (r_11, M_12) => some (0, r_11, M_12) := by
          unfold Mod_takeBracket_B17
          dsimp only
          rw [if_pos rfl, hh, Option.bind_some]
          dsimp only
          rw [if_neg (fun q => c (e93.mp q))]
        rw [show (some k).isSome = true from rfl]
        cases e : prtS w s true ps.length with
        | inl t =>
          rw [e] at kp
          obtain ⟨M1, k1, k2⟩ := kp
          have k1 : Mod_takePart F (nI n) 1 (mr M s) = some (nI t.1, M1) := k1
          refine Or.inl ⟨t, rfl, M1, ?_, k2⟩
          have bd : Mod_takeBracket_B17 F (nI n) (0, mr M p) = some (0, nI t.1, M1) := by rw [st, k1, Option.bind_some]
          rw [loopN_go bd]
          cases G with
          | zero => omega
          | succ G =>
            refine loopN_ex (q := (1, nI t.1, M1)) ?_ (fun q => by cases q)
            unfold Mod_takeBracket_B17
            dsimp only
            rw [if_neg (nz k2.1)]
        | inr z =>
          obtain ⟨p', q⟩ := z
          have pl := prtS_le s2 e
          rw [e] at kp
          obtain ⟨M1, k1, k2, k3, k4⟩ := kp
          have k1 : Mod_takePart F (nI n) 1 (mr M s) = some (0, mr M1 p') := k1
          have bd : Mod_takeBracket_B17 F (nI n) (0, mr M p) = some (0, 0, mr M1 p') := by rw [st, k1, Option.bind_some]
          rw [loopN_go bd]
          have hl : (ps ++ [q]).length = ps.length + 1 := by rw [List.length_append]; rfl
          rcases ih p' (ps ++ [q]) M1 G (by omega) pl.2.1 (k2.t hT) (k2.f h) k3 k4 (by omega) (by omega) (by omega) with ⟨t, t1, t2⟩ | ⟨f', s', ps', M2, q1, q2, q3, q4, q5, q6⟩
          · exact Or.inl ⟨t, t1, t2⟩
          · exact Or.inr ⟨f', s', ps', M2, by omega, q2, q3, q4, k2.tr q5, q6⟩
theorem FMr.m {M0 M : zM} {f : Flt} {x : Int32} (h : FMr M0 f M) : FMr M0 f (zI M 63 18 x) := ⟨h.1, (zI_ne (Or.inr (by decide))).trans h.2.1, h.2.2.1.z (by decide), h.2.2.2.same (zI_other (by decide))⟩
theorem brk_ok {F n : Nat} {w : List Nat} {M0 : zM} (hB : okB w) (hn : n < 12) (hF : 3000 < F) (f s : Nat) (ps : List Prt) (M : zM) (hfp : 241 ≤ f + (s + 1)) (hp : s < w.length) (hT : MT w M) (h : fM M0 M) (hz : Z87 M) (hc : CU n ps M) (h8 : ps.length ≤ 8) (hf : f ≤ 241) :
    (∃ t, parS w f (s + 1) (some ps.length) ps = .inl t ∧ ∃ M1, Mod_takeBracket F (nI n) (mr M s) = some (nI t.1, M1) ∧ FMr M0 t M1) ∨
    (∃ f' s' ps' M1, f' < f ∧ 241 ≤ f' + (s' + 1) ∧ parS w f (s + 1) (some ps.length) ps = parS w f' (s' + 1) none ps' ∧ Mod_takeBracket F (nI n) (mr M s) = some (0, mr M1 (s' + 1)) ∧ hM n M M1 ∧ Z87 M1 ∧ CU n ps' M1 ∧ s' < w.length ∧ 0 < ps'.length ∧ ps'.length ≤ 8) := by
  have h240 := hB.1
  cases f with
  | zero => omega
  | succ f =>
    have hp1 : s + 1 ≤ w.length := by omega
    have a1 := wh_sp qB hp1
    have s1 : s + 1 ≤ skB w (s + 1) := a1.1
    have s2 : skB w (s + 1) ≤ w.length := a1.2.1
    have kp := tprt_ok (F := F) (n := n) (p := s + 1) (br := true) hB hT h hz hc hp1 hn h8 hF
    have st : Mod_takeBracket F (nI n) (mr M s) = (Mod_takePart F (nI n) 1 (mr M (s + 1))).bind fun (r_3, M_4) => (loopN (Mod_takeBracket_B17 F (nI n)) F (r_3, M_4)).bind fun (k_16, x2_14, M_15) => if k_16 = 1 then Mod_takeBracket_J40 F x2_14 M_15 else none := by
      unfold Mod_takeBracket
      dsimp only [lt]
      rw [mr_p, nI_1, mr_m]
    rw [parS_s, if_neg (fun q => by cases q.2.1), if_neg (fun q => by cases q.2), if_neg (fun q => absurd q.2.2 (Nat.lt_irrefl _)), show (some ps.length).isSome = true from rfl]
    have j40 : ∀ t M1, FMr M0 t M1 → ∃ M2, Mod_takeBracket_J40 F (nI t.1) M1 = some (nI t.1, M2) ∧ FMr M0 t M2 := fun t M1 ht => by
      unfold Mod_takeBracket_J40
      dsimp only [lt]
      rw [if_neg (nz ht.1)]
      exact ⟨_, rfl, ht.m⟩
    cases e : prtS w (skB w (s + 1)) true ps.length with
    | inl t =>
      rw [e] at kp
      obtain ⟨M1, k1, k2⟩ := kp
      have k1 : Mod_takePart F (nI n) 1 (mr M (s + 1)) = some (nI t.1, M1) := k1
      have lx : loopN (Mod_takeBracket_B17 F (nI n)) F (nI t.1, M1) = some (1, nI t.1, M1) := by
        cases F with
        | zero => omega
        | succ G =>
          refine loopN_ex (q := (1, nI t.1, M1)) ?_ (fun q => by cases q)
          unfold Mod_takeBracket_B17
          dsimp only
          rw [if_neg (nz k2.1)]
      obtain ⟨M2, j1, j2⟩ := j40 t M1 k2
      refine Or.inl ⟨t, rfl, M2, ?_, j2⟩
      rw [st, k1, Option.bind_some]
      dsimp only
      rw [lx, Option.bind_some]
      dsimp only
      rw [if_pos rfl, j1]
    | inr z =>
      obtain ⟨p', q⟩ := z
      have pl := prtS_le s2 e
      rw [e] at kp
      obtain ⟨M1, k1, k2, k3, k4⟩ := kp
      have k1 : Mod_takePart F (nI n) 1 (mr M (s + 1)) = some (0, mr M1 p') := k1
      have hl : (ps ++ [q]).length = ps.length + 1 := by rw [List.length_append]; rfl
      rcases brkL (F := F) (k := ps.length) hB hn hF f p' (ps ++ [q]) M1 F (by omega) pl.2.1 (k2.t hT) (k2.f h) k3 k4 (by omega) (by omega) (by omega) with ⟨t, t1, M2, t2, t3⟩ | ⟨f', s', ps', M2, q1, q2, q3, q4, q5, q6, q7, q8, q9⟩
      · obtain ⟨M3, j1, j2⟩ := j40 t M2 t3
        refine Or.inl ⟨t, t1, M3, ?_, j2⟩
        rw [st, k1, Option.bind_some]
        dsimp only
        rw [t2, Option.bind_some]
        dsimp only
        rw [if_pos rfl, j1]
      · refine Or.inr ⟨f', s', ps', M2, by omega, q2, q3, ?_, k2.tr q5, q6, q7, q8, q9⟩
        rw [st, k1, Option.bind_some]
        dsimp only
        rw [q4, Option.bind_some]
        dsimp only
        rw [if_pos rfl]
        unfold Mod_takeBracket_J40
        dsimp only [lt]
        rw [if_pos rfl, mr_p, nI_1, mr_m]
theorem formL {F n : Nat} {w : List Nat} {M0 : zM} (hB : okB w) (hn : n < 12) (hF : 3000 < F) : ∀ (N f p : Nat) (ps : List Prt) (M : zM) (G : Nat) (fst : Bool), f ≤ N → f ≤ 241 → 241 ≤ f + p → p ≤ w.length → MT w M → fM M0 M → Z87 M → CU n ps M → ps.length ≤ 8 → (fst = false ↔ 0 < ps.length) → f + 1 < G → match parS w f p none ps with
    | .inl t => ∃ M1, loopN (Mod_takeForm_B149 F (nI n)) G (0, bI fst, mr M p) = some (1, nI t.1, 0, M1) ∧ FMr M0 t M1
    | .inr z => ∃ M1 s, loopN (Mod_takeForm_B149 F (nI n)) G (0, bI fst, mr M p) = some (1, 0, 0, mr M1 s) ∧ hM n M M1 ∧ Z87 M1 ∧ CU n z.2 M1 ∧ s < w.length ∧ skB w s = s ∧ gB w s = 59 ∧ z.1 = s + 1 := by
  have h240 := hB.1
  intro N
  induction N with
  | zero => intro f p ps M G fst hN h1 h2 h3; omega
  | succ N ih =>
    intro f p ps M G fst hN hf hfp hp hT h hz hc h8 hfst hG
    cases f with
    | zero => omega
    | succ f =>
      cases G with
      | zero => omega
      | succ G =>
        have a1 := wh_sp qB hp
        have s1 : p ≤ skB w p := a1.1
        have s2 : skB w p ≤ w.length := a1.2.1
        have hh := here_ok hB hT hp hF
        have ss := skB_i hp
        have hh2 := here_ok hB hT s2 hF
        rw [ss] at hh2
        rw [parS_s]
        generalize skB w p = s at *
        have e59 : cI w s = 59 ↔ gB w s = 59 := cI_eq hB (c := 59) (by decide)
        have e91 : cI w s = 91 ↔ gB w s = 91 := cI_eq hB (c := 91) (by decide)
        by_cases cA : gB w s = 59 ∧ (none : Option Nat) = none ∧ 0 < ps.length
        · rw [if_pos cA]
          refine ⟨M, s, ?_, hM.rf, hz, hc, gB_in2 cA.1 (by decide), ss, cA.1, rfl⟩
          refine loopN_ex (q := (1, 0, 0, mr M s)) ?_ (fun q => by cases q)
          unfold Mod_takeForm_B149
          dsimp only
          rw [if_pos rfl, hfst.mpr cA.2.2, if_pos (show bI false = 0 from rfl), hh, Option.bind_some]
          dsimp only
          rw [if_pos (e59.mpr cA.1)]
        · rw [if_neg cA]
          have j166 : ∀ X, X = mr M p ∨ X = mr M s → Mod_takeForm_J166 F (nI n) X = if cI w s = 91 then (Mod_takeBracket F (nI n) (mr M s)).bind fun (r_46, M_47) => some (0, r_46, (0 : Int32), M_47) else (Mod_takePart F (nI n) 0 (mr M s)).bind fun (r_43, M_44) => some (0, r_43, (0 : Int32), M_44) := fun X hX => by
            unfold Mod_takeForm_J166
            rcases hX with rfl | rfl
            · rw [hh, Option.bind_some]
            · rw [hh2, Option.bind_some]
          have st : Mod_takeForm_B149 F (nI n) (0, bI fst, mr M p) = if cI w s = 91 then (Mod_takeBracket F (nI n) (mr M s)).bind fun (r_46, M_47) => some (0, r_46, (0 : Int32), M_47) else (Mod_takePart F (nI n) 0 (mr M s)).bind fun (r_43, M_44) => some (0, r_43, (0 : Int32), M_44) := by
            unfold Mod_takeForm_B149
            dsimp only
            rw [if_pos rfl]
            cases fst with
            | true => rw [if_neg (show ¬ bI true = 0 by decide), j166 _ (Or.inl rfl)]
            | false =>
              rw [if_pos (show bI false = 0 from rfl), hh, Option.bind_some]
              dsimp only
              rw [if_neg (fun q => cA ⟨e59.mp q, rfl, hfst.mp rfl⟩), j166 _ (Or.inr rfl)]
          have bad : ∀ (t : Flt) (M1 : zM), FMr M0 t M1 → Mod_takeForm_B149 F (nI n) (0, bI fst, mr M p) = some (0, nI t.1, 0, M1) → loopN (Mod_takeForm_B149 F (nI n)) (G + 1) (0, bI fst, mr M p) = some (1, nI t.1, 0, M1) := fun t M1 ht bd => by
            rw [loopN_go bd]
            cases G with
            | zero => omega
            | succ G =>
              refine loopN_ex (q := (1, nI t.1, 0, M1)) ?_ (fun q => by cases q)
              unfold Mod_takeForm_B149
              dsimp only
              rw [if_neg (nz ht.1)]
          by_cases cB : gB w s = 91 ∧ (none : Option Nat) = none
          · rw [if_pos cB]
            rw [if_pos (e91.mpr cB.1)] at st
            have hlt := gB_in2 cB.1 (show 91 < 256 by decide)
            rcases brk_ok (F := F) hB hn hF f s ps M (by omega) hlt hT h hz hc h8 (by omega) with ⟨t, t1, M1, t2, t3⟩ | ⟨f', s', ps', M1, q1, q2, q3, q4, q5, q6, q7, q8, q9, q10⟩
            · rw [t1]
              exact ⟨M1, bad t M1 t3 (by rw [st, t2, Option.bind_some]), t3⟩
            · rw [q3]
              have bd : Mod_takeForm_B149 F (nI n) (0, bI fst, mr M p) = some (0, 0, bI false, mr M1 (s' + 1)) := by
                rw [st, q4, Option.bind_some]; rfl
              rw [loopN_go bd]
              have k := ih f' (s' + 1) ps' M1 G false (by omega) (by omega) q2 (by omega) (q5.t hT) (q5.f h) q6 q7 q10 ⟨fun _ => q9, fun _ => rfl⟩ (by omega)
              cases e : parS w f' (s' + 1) none ps' with
              | inl t => rw [e] at k; exact k
              | inr z =>
                rw [e] at k
                obtain ⟨M2, s'', r1, r2, r3⟩ := k
                exact ⟨M2, s'', r1, q5.tr r2, r3⟩
          · rw [if_neg cB, if_neg (fun q => q.2.1 rfl)]
            rw [if_neg (fun q => cB ⟨e91.mp q, rfl⟩)] at st
            have kp := tprt_ok (F := F) (n := n) (p := s) (br := false) hB hT h hz hc s2 hn h8 hF
            rw [ss] at kp
            rw [show (none : Option Nat).isSome = false from rfl]
            cases e : prtS w s false ps.length with
            | inl t =>
              rw [e] at kp
              obtain ⟨M1, k1, k2⟩ := kp
              have k1 : Mod_takePart F (nI n) 0 (mr M s) = some (nI t.1, M1) := k1
              exact ⟨M1, bad t M1 k2 (by rw [st, k1, Option.bind_some]), k2⟩
            | inr z =>
              obtain ⟨p', q⟩ := z
              have pl := prtS_le s2 e
              rw [e] at kp
              obtain ⟨M1, k1, k2, k3, k4⟩ := kp
              have k1 : Mod_takePart F (nI n) 0 (mr M s) = some (0, mr M1 p') := k1
              have bd : Mod_takeForm_B149 F (nI n) (0, bI fst, mr M p) = some (0, 0, bI false, mr M1 p') := by
                rw [st, k1, Option.bind_some]; rfl
              rw [loopN_go bd]
              have hl : (ps ++ [q]).length = ps.length + 1 := by rw [List.length_append]; rfl
              have k := ih f p' (ps ++ [q]) M1 G false (by omega) (by omega) (by omega) pl.2.1 (k2.t hT) (k2.f h) k3 k4 (by omega) ⟨fun _ => by omega, fun _ => rfl⟩ (by omega)
              dsimp only
              cases e2 : parS w f p' none (ps ++ [q]) with
              | inl t => rw [e2] at k; exact k
              | inr z =>
                rw [e2] at k
                obtain ⟨M2, s'', r1, r2, r3⟩ := k
                exact ⟨M2, s'', r1, k2.tr r2, r3⟩

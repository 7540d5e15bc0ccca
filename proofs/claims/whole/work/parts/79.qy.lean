theorem cI_neg {w : List Nat} (hB : okB w) {p : Nat} (hp : p ≤ w.length) : cI w p < 0 ↔ p = w.length := by
  unfold cI
  by_cases c : p < w.length
  · rw [if_pos c]
    exact ⟨fun q => absurd q (nI_pos (by have := gB_lt hB c; omega)), fun q => by omega⟩
  · rw [if_neg c]
    exact ⟨fun _ => by omega, fun _ => by decide⟩
theorem rdL {F : Nat} {x1 : Int32} {w : List Nat} {M0 : zM} (hB : okB w) (hF : 3000 < F) : ∀ (f p : Nat) (C : List Cls) (M : zM) (G : Nat), C.length + f = 13 → p ≤ w.length → okN C → BM w C M0 M → f + 1 < G → match txS w f p C with
    | .inl t => ∃ M1, loopN (Mod_read_B28 F x1) G (0, mr M p) = some (1, nI t.1, M1) ∧ FMr M0 t M1
    | .inr C' => ∃ M1, loopN (Mod_read_B28 F x1) G (0, mr M p) = some (1, 0, M1) ∧ BM w C' M0 M1 ∧ okN C' ∧ ∀ c ∈ C', c ∈ C ∨ okCl c := by
  intro f
  induction f with
  | zero => intro p C M G h1 h2 h3; have := h3.1; omega
  | succ f ih =>
    intro p C M G hCf hp hN h hG
    cases G with
    | zero => omega
    | succ G =>
      have s2 : skB w p ≤ w.length := (wh_sp qB hp).2.1
      have ss := skB_i hp
      have st : Mod_read_B28 F x1 (0, mr M p) = if cI w (skB w p) < 0 then some (1, 0, mr M (skB w p)) else (Mod_takeClause F (mr M (skB w p))).bind fun (r_16, M_17) => some (0, r_16, M_17) := by
        unfold Mod_read_B28
        dsimp only
        rw [if_pos rfl, here_ok hB h.1 hp hF, Option.bind_some]
      rw [txS_s]
      by_cases c1 : skB w p = w.length
      · rw [if_pos c1]
        refine ⟨mr M (skB w p), loopN_ex (q := (1, 0, mr M (skB w p))) ?_ (fun q => by cases q), ⟨h.1.mr, h.2.1.mr, h.2.2.1.same (mr_o (by decide)), (mr_1 (by decide)).trans h.2.2.2.1, (mr_1 (by decide)).trans h.2.2.2.2.1, fun i hi => (h.2.2.2.2.2 i hi).keep (n := C.length) hi (mr_h (n := C.length)).j⟩, hN, fun c hc => Or.inl hc⟩
        rw [st, if_pos ((cI_neg hB s2).mpr c1)]
      · rw [if_neg c1]
        rw [if_neg (fun q => c1 ((cI_neg hB s2).mp q))] at st
        have k := tcl_ok (F := F) hB h hN s2 ss hF
        cases e : clS w C (skB w p) with
        | inl t =>
          rw [e] at k
          obtain ⟨M1, k1, k2⟩ := k
          refine ⟨M1, ?_, k2⟩
          have bd : Mod_read_B28 F x1 (0, mr M p) = some (0, nI t.1, M1) := by rw [st, k1, Option.bind_some]
          rw [loopN_go bd]
          cases G with
          | zero => omega
          | succ G =>
            refine loopN_ex (q := (1, nI t.1, M1)) ?_ (fun q => by cases q)
            unfold Mod_read_B28
            dsimp only
            rw [if_neg (nz k2.1)]
        | inr z =>
          obtain ⟨p', c⟩ := z
          have oc := clS_ok s2 e
          rw [e] at k
          obtain ⟨M1, k1, k2, k3, k4⟩ := k
          dsimp only at k1 k2 k3
          have bd : Mod_read_B28 F x1 (0, mr M p) = some (0, 0, mr M1 p') := by rw [st, k1, Option.bind_some]
          rw [loopN_go bd]
          have kk := ih p' (C ++ [c]) M1 G (by rw [List.length_append]; show C.length + 1 + f = 13; omega) k3 (okN_add hN k4 oc.1) k2 (by omega)
          dsimp only
          cases e2 : txS w f p' (C ++ [c]) with
          | inl t => rw [e2] at kk; exact kk
          | inr C' =>
            rw [e2] at kk
            obtain ⟨M2, r1, r2, r3, r4⟩ := kk
            refine ⟨M2, r1, r2, r3, fun x hx => ?_⟩
            rcases r4 x hx with y | y
            · rcases List.mem_append.mp y with y2 | y2
              · exact Or.inl y2
              · rw [List.mem_singleton.mp y2]; exact Or.inr oc.1
            · exact Or.inr y

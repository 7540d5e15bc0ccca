/-! the class makes names: one name -/
theorem pg_mem {ps : List Prt} {j : Nat} (h : j < ps.length) : pg ps j ∈ ps := by
  unfold pg
  rw [List.getD_eq_getElem?_getD, List.getElem?_eq_getElem h]
  exact List.getElem_mem h
theorem drop_p {ps : List Prt} {j : Nat} (h : j < ps.length) : ps.drop j = pg ps j :: ps.drop (j + 1) := by
  unfold pg
  rw [List.drop_eq_getElem_cons h, List.getD_eq_getElem?_getD, List.getElem?_eq_getElem h]; rfl
def rsN (n u : Nat) : Nat := if u = 0 then 0 else n % u
theorem thr_f {q : Prt} {n u : Nat} : thr q n u = false ↔ q.2.1 = true ∧ rsN n u = 0 := by
  unfold thr rsN
  cases q.2.1 with
  | false => simp
  | true =>
    by_cases c : u = 0
    · simp [c]
    · simp [c]
theorem nmO_long {N : Nat → Option Nm} {c : Cls} {n : Nat} {ps : List Prt} {r : List Nat × Nat} (h : bldP N n c.2.2.1 ps r = bldP N n c.2.2.1 c.2.2.2 ([], 0)) (hl : 60 < r.1.length) : nmO N c n = none := by
  cases e : nmO N c n with
  | none => rfl
  | some x =>
    have h3 := nmO_some.mp e
    rw [← h] at h3
    have := (bldP_ge _ _ _ h3.1).2
    omega
theorem spell_ok {F t i n : Nat} {C : List Cls} {N : Nat → Option Nm} {M : zM} (hC : CX C M) (hi : i < C.length) (h12 : C.length ≤ 12) (hc : okCl (cg C i)) (hN : ∀ n, n < 1000 → XN (14 + 10 * t) n (N n) M) (ht : t < 3) (hn : n < 1000) (hF : 3000 < F) : ∃ M1, Nam_spell F (14 + 10 * t) (nI i) (nI n) M = some (bI (nmO N (cg C i) n).isSome, M1) ∧ fS M M1 ∧ ∀ r, nmO N (cg C i) n = some r → SL r.1 r.2 M1 := by
  obtain ⟨v0, v1, v2, v3, v4, v5⟩ := hC.2 i hi
  generalize cg C i = c at *
  have ui : c.2.2.1 ≤ 500 := by rcases hc.2.2.1 with q | q <;> omega
  have rl : rsN n c.2.2.1 < 1000 := by
    unfold rsN
    split
    · decide
    · have := Nat.mod_le n c.2.2.1; omega
  have f0 : fS M (zI (zEmp (zEmp M 45) 47) 44 4 0) := ⟨fun b b1 b2 b3 => (zI_other b1).trans ((zEmp_1 b3).trans (zEmp_1 b2)), fun b b1 b2 => by rw [zI_f, zEmp_2 b2, zEmp_2 b1]⟩
  have s0 : SL [] 0 (zI (zEmp (zEmp M 45) 47) 44 4 0) := ⟨XL.same (M := zEmp M 45) zEmp_XL (by rw [zI_other (by decide), zEmp_1 (by decide)]) (by rw [zI_f, zEmp_2 (by decide)]), XL.same (M := zEmp (zEmp M 45) 47) zEmp_XL (zI_other (by decide)) rfl, zI_in⟩
  have st : Nam_spell F (14 + 10 * t) (nI i) (nI n) M = Nam_spell_J43 F (14 + 10 * t) (nI i) (nI n) (nI c.2.2.1) (nI (rsN n c.2.2.1)) (zI (zEmp (zEmp M 45) 47) 44 4 0) := by
    unfold Nam_spell
    rw [empty_ok rfl (by omega), Option.bind_some]
    dsimp only
    rw [empty_ok rfl (by omega), Option.bind_some]
    dsimp only [lt]
    rw [if_pos (inb_nI (by omega) (by decide)), nI_clamp (by omega), f0.1 6 (by decide) (by decide) (by decide), v3]
    unfold rsN
    by_cases c0 : c.2.2.1 = 0
    · rw [if_pos (show nI c.2.2.1 ≤ 0 from nI_le (b := 0) (by omega) (by decide)), if_pos c0]; rfl
    · rw [if_neg (show ¬ nI c.2.2.1 ≤ 0 from nI_ge (a := 0) (by omega) (by omega)), if_pos (show ¬ nI c.2.2.1 = 0 from fun z => c0 ((nI_eq (b := 0) (by omega) (by decide)).mp z)), if_neg c0, pk_rem (by omega) (by omega) (by omega)]
  rw [st]
  generalize zI (zEmp (zEmp M 45) 47) 44 4 0 = Ms at *
  have i8 : nI i * 8 = nI (8 * i) := by rw [show nI i * 8 = nI (i * 8) from pk_mul _ 8, Nat.mul_comm]
  have y00 : nI (rsN n c.2.2.1) = 0 ↔ rsN n c.2.2.1 = 0 := nI_eq (b := 0) (by omega) (by decide)
  have key := loopN_inv (body := Nam_spell_B55 F (14 + 10 * t) (nI i) (nI n) (nI c.2.2.1) (nI (rsN n c.2.2.1)) (nI (8 * i))) (I := fun j s => ∃ M1 r, s = (nI (8 * i + j), M1) ∧ fS M M1 ∧ SL r.1 r.2 M1 ∧ r.2 ≤ 8 ∧ bldP N n c.2.2.1 (c.2.2.2.drop j) r = bldP N n c.2.2.1 c.2.2.2 ([], 0)) (Qx := fun q => ∃ M1, fS M M1 ∧ ((q = (1, 0, M1) ∧ nmO N c n = none) ∨ (q = (2, 0, M1) ∧ ∃ r : List Nat × Nat, SL r.1 r.2 M1 ∧ r.2 ≤ 8 ∧ bldP N n c.2.2.1 c.2.2.2 ([], 0) = some r))) (N := c.2.2.2.length) (F := F) (s := (nI (8 * i), Ms)) (fun j s hj hs => by
    obtain ⟨M1, r, rfl, f1, s1, r8, hb⟩ := hs
    have p8 := v0
    obtain ⟨u1, u2, u3⟩ := v5 j hj
    have okq := hc.2.2.2.2 _ (pg_mem hj)
    have pz : c.2.2.1 = 0 → (pg c.2.2.2 j).1 = 0 := fun y => by
      rcases hc.2.2.1 with z | z
      · obtain ⟨_, _, l, hl⟩ := z
        have hj1 : j < 1 := by rw [hl] at hj; exact hj
        rw [hl, show j = 0 by omega]; rfl
      · omega
    rw [drop_p hj, bldP_c] at hb
    generalize pg c.2.2.2 j = q at *
    unfold Nam_spell_B55
    dsimp only [lt]
    rw [if_pos (inb_nI (by omega) (by decide)), nI_clamp (by omega), f1.1 7 (by decide) (by decide) (by decide), v4, nI_add, if_neg (nI_ge (by omega) (by omega)), if_pos (inb_nI (by omega) (by decide)), nI_clamp (by omega), f1.1 9 (by decide) (by decide) (by decide), u2]
    have skip : thr q n c.2.2.1 = false → ∃ s', some ((0 : Nat), nI (8 * i + j) + 1, M1) = some (0, s') ∧ ∃ M1 r, s' = (nI (8 * i + (j + 1)), M1) ∧ fS M M1 ∧ SL r.1 r.2 M1 ∧ r.2 ≤ 8 ∧ bldP N n c.2.2.1 (c.2.2.2.drop (j + 1)) r = bldP N n c.2.2.1 c.2.2.2 ([], 0) := fun hq => by
      rw [hq, if_neg (by decide)] at hb
      exact ⟨_, rfl, M1, r, by rw [nI_1]; rfl, f1, s1, r8, hb⟩
    have j93 : thr q n c.2.2.1 = true → (∃ s', Nam_spell_J93 F (14 + 10 * t) (nI i) (nI n) (nI c.2.2.1) (nI (rsN n c.2.2.1)) (nI (8 * i)) (nI (8 * i + j)) M1 = some (0, s') ∧ ∃ M1 r, s' = (nI (8 * i + (j + 1)), M1) ∧ fS M M1 ∧ SL r.1 r.2 M1 ∧ r.2 ≤ 8 ∧ bldP N n c.2.2.1 (c.2.2.2.drop (j + 1)) r = bldP N n c.2.2.1 c.2.2.2 ([], 0)) ∨ ∃ q', Nam_spell_J93 F (14 + 10 * t) (nI i) (nI n) (nI c.2.2.1) (nI (rsN n c.2.2.1)) (nI (8 * i)) (nI (8 * i + j)) M1 = some q' ∧ q'.1 ≠ 0 ∧ ∃ M1, fS M M1 ∧ ((q' = (1, 0, M1) ∧ nmO N c n = none) ∨ (q' = (2, 0, M1) ∧ ∃ r : List Nat × Nat, SL r.1 r.2 M1 ∧ r.2 ≤ 8 ∧ bldP N n c.2.2.1 c.2.2.2 ([], 0) = some r)) := fun hq => by
      rw [hq, if_pos rfl] at hb
      unfold Nam_spell_J93
      rw [if_pos (inb_nI (by omega) (by decide)), nI_clamp (by omega), f1.1 8 (by decide) (by decide) (by decide), u1, f1.1 11 (by decide) (by decide) (by decide), f1.2 10 (by decide) (by decide)]
      by_cases q0 : q.1 = 0
      · obtain ⟨l1, l2, l3⟩ : 0 < q.2.2.length ∧ q.2.2.length ≤ 12 ∧ ∀ k ∈ q.2.2, 97 ≤ k ∧ k ≤ 122 := by
          rcases okq with y | y
          · exact y.2
          · exact absurd q0 (isK_lt y.1).2
        have pw : prtW N n c.2.2.1 q = some (q.2.2, 0) := by unfold prtW; rw [if_pos q0]
        rw [pw] at hb
        dsimp only at hb
        obtain ⟨M2, k1, k2, k3⟩ := addL_ok (F := F) s1 l1 l2 l3
        rw [if_pos (show nI q.1 = 0 by rw [q0]; rfl), (u3 q0).1, (u3 q0).2, k1, Option.bind_some]
        dsimp only [lt]
        by_cases cf : (jnW r.1 q.2.2).length ≤ 60
        · rw [decide_eq_true cf, if_neg (show ¬ bI true = 0 by decide)]
          refine Or.inl ⟨_, rfl, M2, (jnW r.1 q.2.2, max r.2 0), by rw [nI_1]; rfl, f1.tr k2, ?_, by show max r.2 0 ≤ 8; omega, hb⟩
          rw [show max r.2 0 = r.2 by omega]; exact k3 cf
        · rw [decide_eq_false cf, if_pos (show bI false = 0 from rfl)]
          exact Or.inr ⟨_, rfl, (fun z => by cases z), M2, f1.tr k2, Or.inl ⟨rfl, nmO_long hb (by show 60 < (jnW r.1 q.2.2).length; omega)⟩⟩
      · have kk : isK q.1 = true := by
          rcases okq with y | y
          · exact absurd y.1 q0
          · exact y.1
        have uu : 2 ≤ c.2.2.1 ∧ c.2.2.1 ≤ 500 := by
          rcases hc.2.2.1 with y | y
          · exact absurd (pz y.1) q0
          · exact y
        have rs : rsN n c.2.2.1 = n % c.2.2.1 := by unfold rsN; rw [if_neg (by omega)]
        obtain ⟨a1, a2⟩ := ask_n (F := F) (M := M1) kk hn uu
        have k := addN_ok (F := F) (m := askN q.1 n c.2.2.1) s1 (fun m hm => (hN m hm).fS ht f1) ht (by omega) a2 hF
        rw [if_neg (show ¬ nI q.1 = 0 from fun z => q0 ((nI_eq (b := 0) (by have := isK_lt kk; omega) (by decide)).mp z)), rs, a1, Option.bind_some]
        dsimp only [lt]
        have pw : prtW N n c.2.2.1 q = match (if askN q.1 n c.2.2.1 < 1000 then N (askN q.1 n c.2.2.1) else none) with
            | none => none
            | some x => some (x.1, x.2.2) := by
          unfold prtW
          rw [if_neg q0]
          by_cases y : askN q.1 n c.2.2.1 < 1000
          · rw [if_pos y, if_pos y]
            cases N (askN q.1 n c.2.2.1) <;> rfl
          · rw [if_neg y, if_neg y]
        rw [pw] at hb
        cases e : (if askN q.1 n c.2.2.1 < 1000 then N (askN q.1 n c.2.2.1) else none) with
        | none =>
          rw [e] at k hb
          dsimp only at k hb
          rw [k, Option.bind_some]
          refine Or.inr ⟨_, rfl, (fun z => by cases z), M1, f1, Or.inl ⟨rfl, ?_⟩⟩
          unfold nmO
          rw [← hb]
        | some x =>
          have x8 : x.2.2 ≤ 8 := by
            by_cases y : askN q.1 n c.2.2.1 < 1000
            · rw [if_pos y] at e
              have := hN _ y
              rw [e] at this
              exact this.2.2.2.1
            · rw [if_neg y] at e; cases e
          rw [e] at k hb
          dsimp only at hb
          obtain ⟨M2, k1, k2, k3⟩ := k
          rw [k1, Option.bind_some]
          dsimp only
          by_cases cf : (jnW r.1 x.1).length ≤ 60
          · rw [decide_eq_true cf, if_neg (show ¬ bI true = 0 by decide)]
            exact Or.inl ⟨_, rfl, M2, (jnW r.1 x.1, max r.2 x.2.2), by rw [nI_1]; rfl, f1.tr k2, k3 cf, by show max r.2 x.2.2 ≤ 8; omega, hb⟩
          · rw [decide_eq_false cf, if_pos (show bI false = 0 from rfl)]
            exact Or.inr ⟨_, rfl, (fun z => by cases z), M2, f1.tr k2, Or.inl ⟨rfl, nmO_long hb (by show 60 < (jnW r.1 x.1).length; omega)⟩⟩
    cases cb : q.2.1 with
    | false =>
      rw [if_pos (show bI false = 0 from rfl)]
      exact j93 (by unfold thr; rw [cb]; rfl)
    | true =>
      rw [if_neg (show ¬ bI true = 0 by decide)]
      by_cases cr : rsN n c.2.2.1 = 0
      · rw [if_pos (y00.mpr cr)]
        exact Or.inl (skip (thr_f.mpr ⟨cb, cr⟩))
      · rw [if_neg (fun z => cr (y00.mp z))]
        refine j93 ?_
        cases z : thr q n c.2.2.1 with
        | true => rfl
        | false => exact absurd (thr_f.mp z).2 cr) (fun s hs => by
    obtain ⟨M1, r, rfl, f1, s1, r8, hb⟩ := hs
    rw [List.drop_length] at hb
    refine ⟨(2, 0, M1), ?_, (fun q => by cases q), M1, f1, Or.inr ⟨rfl, r, s1, r8, hb.symm⟩⟩
    unfold Nam_spell_B55
    dsimp only
    have p8 := v0
    rw [if_pos (inb_nI (by omega) (by decide)), nI_clamp (by omega), f1.1 7 (by decide) (by decide) (by decide), v4, nI_add, if_pos (nI_le (Nat.le_refl _) (by omega))]) (by have p8 := v0; omega) ⟨Ms, ([], 0), rfl, f0, s0, by decide, rfl⟩
  obtain ⟨q, e, M1, f1, hq⟩ := key
  unfold Nam_spell_J43
  dsimp only [lt]
  rw [i8, e, Option.bind_some]
  rcases hq with ⟨rfl, hq⟩ | ⟨rfl, r, s1, r8, hb⟩
  · rw [hq]
    exact ⟨M1, rfl, f1, fun r hr => by cases hr⟩
  · dsimp only
    rw [if_neg (by decide), if_pos rfl, s1.2.2]
    by_cases c8 : r.2 < 8
    · have hx : nmO N c n = some r := nmO_some.mpr ⟨hb, s1.1.1.1, c8⟩
      rw [if_neg (show ¬ (8 : Int32) ≤ nI r.2 from nI_ge (b := 8) c8 (by decide)), hx]
      refine ⟨M1, rfl, f1, fun r' hr' => ?_⟩
      injection hr' with hr'
      rw [← hr']; exact s1
    · have hx : nmO N c n = none := by
        unfold nmO
        rw [hb]
        exact if_neg (fun z => c8 z.2)
      rw [if_pos (show (8 : Int32) ≤ nI r.2 from nI_le (a := 8) (by omega) (by omega)), hx]
      exact ⟨M1, rfl, f1, fun r hr => by cases hr⟩

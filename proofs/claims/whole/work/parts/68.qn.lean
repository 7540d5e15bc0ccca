theorem zL_f {M : zM} {a k : Nat} {v : Int64} : (zL M a k v).1 = M.1 := rfl
theorem zI_f {M : zM} {a k : Nat} {v : Int32} : (zI M a k v).2 = M.2 := rfl
theorem mv_self {M : zM} {p : Nat} (h : M.1 1 2 = nI p) : mv M p = M := zI_self h
def addP (c : Cls) (q : Prt) : Cls := (c.1, c.2.1, c.2.2.1, c.2.2.2 ++ [q])
theorem BX.c1 {w : List Nat} {C0 : List Cls} {c : Cls} {M0 M : zM} (h : BX w (C0 ++ [c]) M0 M) : M.1 3 0 = nI (C0.length + 1) ∧ CX1 C0.length c M := by
  have a := h.2.1.1
  have b := h.2.1.2 C0.length (by rw [List.length_append]; exact Nat.lt_succ_self _)
  rw [List.length_append] at a
  rw [cg_2] at b
  exact ⟨a, b⟩
theorem latest_ok {F : Nat} {w : List Nat} {C0 : List Cls} {c : Cls} {M0 M : zM} (h : BX w (C0 ++ [c]) M0 M) (hc : C0.length < 12) : Cla_latestParts F M = some (nI c.2.2.2.length, M) := by
  obtain ⟨a, b⟩ := h.c1
  unfold Cla_latestParts
  rw [a, if_neg (show ¬ nI (C0.length + 1) = 0 from fun q => by have := (nI_eq (b := 0) (by omega) (by decide)).mp q; omega), show nI (C0.length + 1) - 1 = nI C0.length from pk_sub (b := 1) (by omega), if_pos (inb_nI hc (by decide)), nI_clamp (by omega), b.2.2.2.2.1]
theorem add_ok {F : Nat} {w : List Nat} {C0 : List Cls} {c : Cls} {q : Prt} {x3 : Int64} {x5 : Int32} {M0 M : zM} (h : BX w (C0 ++ [c]) M0 M) (hc : C0.length < 12) (hp : c.2.2.2.length < 8) (hq : q.1 = 0 → x3 = pk q.2.2 0 ∧ x5 = nI q.2.2.length) : ∃ M1, Cla_addPart F (nI q.1) (bI q.2.1) x3 x5 M = some ((), M1) ∧ BX w (C0 ++ [addP c q]) M0 M1 ∧ M1.1 1 = M.1 1 := by
  obtain ⟨a, b⟩ := h.c1
  obtain ⟨h1, h2, h3, h4⟩ := h
  obtain ⟨b0, b1, b2, b3, b4, b5⟩ := b
  have e1 : nI (C0.length + 1) - 1 = nI C0.length := pk_sub (b := 1) (by omega)
  have e2 : nI C0.length * 8 + nI c.2.2.2.length = nI (8 * C0.length + c.2.2.2.length) := by rw [show nI C0.length * 8 = nI (C0.length * 8) from pk_mul _ 8, nI_add, Nat.mul_comm]
  refine ⟨zI (zI (zL (zI (zI M 8 (8 * C0.length + c.2.2.2.length) (nI q.1)) 9 (8 * C0.length + c.2.2.2.length) (bI q.2.1)) 10 (8 * C0.length + c.2.2.2.length) x3) 11 (8 * C0.length + c.2.2.2.length) x5) 7 C0.length (nI (c.2.2.2.length + 1)), ?_, ⟨⟨h1.1, h1.2⟩, ⟨?_, fun i hi => ?_⟩, ⟨fun b' c1 c2 c3 => ?_, fun b' hb => ?_⟩, ?_⟩, rfl⟩
  · unfold Cla_addPart
    dsimp only [lt]
    rw [a, if_neg (show ¬ nI (C0.length + 1) ≤ 0 from nI_ge (a := 0) (by omega) (by omega)), e1, if_pos (inb_nI hc (by decide)), nI_clamp (by omega), b4, if_neg (show ¬ (8 : Int32) ≤ nI c.2.2.2.length from nI_ge (b := 8) hp (by decide)), e2, if_pos (inb_nI (by omega) (by decide)), nI_clamp (by omega), bI_and]
    show (if inb (M.1 3 0 - 1) 12 = true then some ((), zI (zI (zL (zI (zI M 8 (8 * C0.length + c.2.2.2.length) (nI q.1)) 9 (8 * C0.length + c.2.2.2.length) (bI q.2.1)) 10 (8 * C0.length + c.2.2.2.length) x3) 11 (8 * C0.length + c.2.2.2.length) x5) 7 (M.1 3 0 - 1).toNatClampNeg (M.1 7 (M.1 3 0 - 1).toNatClampNeg + 1)) else none) = _
    rw [a, e1, if_pos (inb_nI hc (by decide)), nI_clamp (by omega), b4, nI_1]
  · show M.1 3 0 = _
    rw [a, List.length_append]; rfl
  · rw [List.length_append] at hi
    have hi : i < C0.length + 1 := hi
    by_cases z : i = C0.length
    · subst z
      rw [cg_2]
      refine ⟨by show (c.2.2.2 ++ [q]).length ≤ 8; rw [List.length_append]; exact hp, b1, b2, b3, ?_, fun j hj => ?_⟩
      · rw [zI_in]; show _ = nI (c.2.2.2 ++ [q]).length; rw [List.length_append]; rfl
      · have hj : j < c.2.2.2.length + 1 := by have : j < (c.2.2.2 ++ [q]).length := hj; rw [List.length_append] at this; exact this
        show PX1 (8 * C0.length + j) (pg (c.2.2.2 ++ [q]) j) _
        by_cases y : j = c.2.2.2.length
        · subst y
          rw [pg_2]
          refine ⟨?_, ?_, fun q0 => ⟨?_, ?_⟩⟩
          · rw [zI_other (by decide), zI_other (by decide), zL_f, zI_other (by decide), zI_in]
          · rw [zI_other (by decide), zI_other (by decide), zL_f, zI_in]
          · rw [zI_f, zI_f, zL_in]; exact (hq q0).1
          · rw [zI_other (by decide), zI_in]; exact (hq q0).2
        · rw [pg_1 (by omega)]
          obtain ⟨u1, u2, u3⟩ := b5 j (by omega)
          refine ⟨?_, ?_, fun q0 => ⟨?_, ?_⟩⟩
          · rw [zI_other (by decide), zI_other (by decide), zL_f, zI_other (by decide), zI_ne (Or.inr (by omega))]; exact u1
          · rw [zI_other (by decide), zI_other (by decide), zL_f, zI_ne (Or.inr (by omega))]; exact u2
          · rw [zI_f, zI_f, zL_ne (Or.inr (by omega))]; exact (u3 q0).1
          · rw [zI_other (by decide), zI_ne (Or.inr (by omega))]; exact (u3 q0).2
    · have hi2 : i < C0.length := by omega
      have v := h2.2 i (by rw [List.length_append]; show i < C0.length + 1; omega)
      rw [cg_1 hi2] at v ⊢
      obtain ⟨v0, v1, v2, v3, v4, v5⟩ := v
      refine ⟨v0, v1, v2, v3, ?_, fun j hj => ?_⟩
      · rw [zI_ne (Or.inr z)]; exact v4
      · obtain ⟨u1, u2, u3⟩ := v5 j hj
        refine ⟨?_, ?_, fun q0 => ⟨?_, ?_⟩⟩
        · rw [zI_other (by decide), zI_other (by decide), zL_f, zI_other (by decide), zI_ne (Or.inr (by omega))]; exact u1
        · rw [zI_other (by decide), zI_other (by decide), zL_f, zI_ne (Or.inr (by omega))]; exact u2
        · rw [zI_f, zI_f, zL_ne (Or.inr (by omega))]; exact (u3 q0).1
        · rw [zI_other (by decide), zI_ne (Or.inr (by omega))]; exact (u3 q0).2
  · rw [zI_other (by omega), zI_other (by omega), zL_f, zI_other (by omega), zI_other (by omega)]
    exact h3.1 b' c1 c2 c3
  · rw [zI_f, zI_f, zL_other hb]
    exact h3.2 b' hb
  · exact h4
theorem signs_of {F s e : Nat} {w : List Nat} {M : zM} (hB : okB w) (hT : TX w M) (h1 : s ≤ e) (h2 : e ≤ w.length) (h3 : e - s ≤ 12) (hl : ∀ k ∈ rng w s e, 97 ≤ k ∧ k ≤ 122) (hF : 3000 < F) : Gra_signsOf F (nI s) (nI e) M = some (pk (rng w s e) 0, M) := by
  have h240 := hB.1
  have hlen := rng_len h1 h2
  have hL : ∀ k ∈ rng w s e, isLt k := fun k hk => Or.inr (hl k hk)
  have key := loopN_seq (body := Gra_signsOf_B5 F (nI s) (nI e)) (e - s) (fun j => (pk ((rng w s e).take j) 0, nI (s + j), M)) (1, pk (rng w s e) 0, 0, M) F (fun j hj => by
    have hg : (rng w s e).getD j 0 = gB w (s + j) := by rw [rng_get hj, gB_in (by omega)]
    have hk : isLt (gB w (s + j)) := by rw [← hg]; exact hL _ (getD_mem (by omega))
    unfold Gra_signsOf_B5
    dsimp only [lt]
    rw [if_neg (nI_ge (by omega) (by omega)), byte_ok hB hT (by omega), Option.bind_some]
    dsimp only
    unfold cI
    rw [if_pos (by omega), signOf_ok hk, Option.bind_some]
    dsimp only
    rw [pk_sub (by omega), show s + j - s = j by omega, show (5 : Int32) * nI j = nI (5 * j) from by rw [show (5 : Int32) = nI 5 from rfl, pk_mul], nI_1, take_s (by omega), hg]
    have pa := (pk_app (w := (rng w s e).take j) (v := [gB w (s + j)]) (q := 0) (r := j) (fun k hk => hL k (List.mem_of_mem_take hk)) (fun k hk' => by rw [List.mem_singleton.mp hk']; exact hk) (by omega) (by rw [List.length_take]; omega) (by show 1 ≤ 12; decide)).2.1
    rw [pa]
    rfl) (by
    unfold Gra_signsOf_B5
    dsimp only
    rw [if_pos (nI_le (by omega) (by omega)), List.take_of_length_le (by omega)]) (fun q => by cases q) (by omega)
  have key : loopN (Gra_signsOf_B5 F (nI s) (nI e)) F (0, nI s, M) = _ := key
  unfold Gra_signsOf
  rw [key, Option.bind_some]
  rfl
theorem let_ok {F p : Nat} {br : Bool} {w : List Nat} {C0 : List Cls} {c : Cls} {M0 M : zM} (hB : okB w) (h : BX w (C0 ++ [c]) M0 M) (hp : p ≤ w.length) (hc : C0.length < 12) (h8 : c.2.2.2.length < 8) (hF : 3000 < F) : match letS w p with
    | .inl f => ∃ M1, Gra_parseLetters F (bI br) (mv M p) = some (0, M1) ∧ FXr M0 f M1
    | .inr z => ∃ M1, Gra_parseLetters F (bI br) (mv M p) = some (1, mv M1 z.1) ∧ BX w (C0 ++ [addP c (0, br, z.2)]) M0 M1 := by
  have h240 := hB.1
  have a := wh_sp qL hp
  have a1 : p ≤ enL w p := a.1
  have a2 : enL w p ≤ w.length := a.2.1
  have hle := fun e l => letS_le (w := w) (e := e) (l := l) hp
  unfold Gra_parseLetters
  rw [at_ok, Option.bind_some]
  dsimp only
  rw [end_ok hB h.1 hp sg_L hF, Option.bind_some]
  dsimp only
  rw [show nI (wh qL w p) = nI (enL w p) from rfl, pk_sub a1]
  unfold letS at hle ⊢
  by_cases c1 : enL w p = p
  · rw [if_pos c1, if_pos (by rw [c1])]
    exact failb (f := 1) h.2.2.1.mv
  · rw [if_neg c1, if_neg (fun q => c1 ((nI_eq (by omega) (by omega)).mp q))]
    by_cases c2 : 12 < enL w p - p
    · rw [if_pos c2, if_neg (show ¬ nI (enL w p - p) ≤ 12 from nI_ge (a := 12) c2 (by omega)), show nI p + 12 = nI (p + 12) from nI_add p 12]
      exact failb (f := 4) h.2.2.1.mv
    · rw [if_neg c1, if_neg c2] at hle
      have hl := hle _ _ rfl
      rw [if_neg c2, if_pos (show nI (enL w p - p) ≤ 12 from nI_le (b := 12) (by omega) (by decide)), signs_of hB h.1.mv a1 a2 (by omega) hl.2.2.2.2 hF, Option.bind_some]
      dsimp only
      obtain ⟨M1, k1, k2, k3⟩ := add_ok (F := F) (q := (0, br, rng w p (enL w p))) (x3 := pk (rng w p (enL w p)) 0) (x5 := nI (enL w p - p)) (h.mv (p := p)) hc h8 (fun _ => ⟨rfl, by rw [hl.2.2.1]⟩)
      have k1 : Cla_addPart F 0 (bI br) (pk (rng w p (enL w p)) 0) (nI (enL w p - p)) (mv M p) = some ((), M1) := k1
      have e1 : mv M1 p = M1 := mv_self (by rw [k3]; exact mv_p)
      rw [k1, Option.bind_some]
      dsimp only
      rw [← e1, move_ok, Option.bind_some]
      dsimp only
      rw [n1]
      exact ⟨M1, rfl, k2⟩

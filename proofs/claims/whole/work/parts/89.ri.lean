/-! the reference makes names: a name grows -/
def Md (r : List Nat) (M : zM) : Prop := M.1 63 33 = nI r.length ∧ ∀ x, x < r.length → M.1 89 x = nI (r.getD x 0)
def fMk (M M1 : zM) : Prop := (∀ b, b ≠ 63 → b ≠ 89 → M1.1 b = M.1 b) ∧ M1.2 = M.2 ∧ ∀ k, k ≠ 33 → M1.1 63 k = M.1 63 k
theorem fMk.rf {M : zM} : fMk M M := ⟨fun _ _ _ => rfl, rfl, fun _ _ => rfl⟩
theorem fMk.tr {M M1 M2 : zM} (h : fMk M M1) (h2 : fMk M1 M2) : fMk M M2 := ⟨fun b b1 b2 => (h2.1 b b1 b2).trans (h.1 b b1 b2), h2.2.1.trans h.2.1, fun k hk => (h2.2.2 k hk).trans (h.2.2 k hk)⟩
theorem Md.put {r : List Nat} {k : Nat} {M : zM} (h : Md r M) : Md (r ++ [k]) (zI (zI M 89 r.length (nI k)) 63 33 (nI (r.length + 1))) ∧ fMk M (zI (zI M 89 r.length (nI k)) 63 33 (nI (r.length + 1))) := by
  refine ⟨⟨by rw [zI_in, List.length_append]; rfl, fun x hx => ?_⟩, fun b b1 b2 => (zI_other b1).trans (zI_other b2), rfl, fun j hj => (zI_ne (Or.inr hj)).trans (congrFun (zI_other (by decide)) j)⟩
  rw [List.length_append] at hx
  have hx : x < r.length + 1 := hx
  rw [zI_other (by decide)]
  by_cases c : x = r.length
  · rw [c, zI_in, getD_app2]
  · rw [zI_ne (Or.inr c), getD_app1 (by omega)]; exact h.2 x (by omega)
theorem addB_ok {F : Nat} {x1 x2 x3 : Int32} {r v : List Nat} {M : zM} (h : Md r M) (hv : v.length ≤ 60) (hr : r.length + 61 < 800) (hb : ∀ M' x, fMk M M' → x < v.length → Mod_addBytes_B63 F x1 x2 x3 (nI v.length) (nI x, M') = Mod_addBytes_J110 F x1 x2 x3 (nI v.length) (nI x) (M'.1 63 33) (nI (v.getD x 0)) M') (hF : 3000 < F) : ∃ M1, Mod_addBytes_J25 F x1 x2 x3 (nI v.length) M = some ((), M1) ∧ fMk M M1 ∧ Md (jnW r v) M1 := by
  have j60 : ∀ (u : List Nat) (Mg : zM), Md u Mg → fMk M Mg → u.length ≤ r.length + 1 → ∃ M1, Mod_addBytes_J60 F x1 x2 x3 (nI v.length) Mg = some ((), M1) ∧ fMk M M1 ∧ Md (u ++ v) M1 := fun u Mg hu hg hl => by
    have key := loopN_inv (body := Mod_addBytes_B63 F x1 x2 x3 (nI v.length)) (I := fun x s => ∃ M1, s = (nI x, M1) ∧ fMk M M1 ∧ Md (u ++ v.take x) M1) (Qx := fun q => ∃ M1, q = (1, 0, M1) ∧ fMk M M1 ∧ Md (u ++ v) M1) (N := v.length) (F := F) (s := (0, Mg)) (fun x s hx hs => by
      obtain ⟨M1, rfl, f1, m1⟩ := hs
      have tl : (u ++ v.take x).length = u.length + x := by rw [List.length_append, List.length_take]; omega
      refine Or.inl ?_
      rw [hb M1 x f1 hx]
      unfold Mod_addBytes_J110
      dsimp only [lt]
      rw [m1.1, if_pos (inb_nI (by omega) (by decide)), nI_clamp (by omega), congrFun (zI_other (show (63 : Nat) ≠ 89 by decide)) 33, m1.1, nI_1, nI_1]
      obtain ⟨p1, p2⟩ := m1.put (k := v.getD x 0)
      refine ⟨_, rfl, _, rfl, f1.tr p2, ?_⟩
      rw [take_s hx, ← List.append_assoc]; exact p1) (fun s hs => by
      obtain ⟨M1, rfl, f1, m1⟩ := hs
      rw [List.take_length] at m1
      refine ⟨(1, 0, M1), ?_, (fun q => by cases q), M1, rfl, f1, m1⟩
      unfold Mod_addBytes_B63
      dsimp only
      rw [if_pos (nI_le (Nat.le_refl _) (by omega))]) (by omega) ⟨Mg, rfl, hg, by rw [List.take_zero, List.append_nil]; exact hu⟩
    obtain ⟨q, e, M1, rfl, f1, m1⟩ := key
    refine ⟨M1, ?_, f1, m1⟩
    unfold Mod_addBytes_J60
    rw [e, Option.bind_some]; rfl
  unfold Mod_addBytes_J25 jnW
  by_cases cv : v = []
  · obtain ⟨M1, k1, k2, k3⟩ := j60 r M h fMk.rf (by omega)
    rw [if_pos (show nI v.length ≤ 0 by rw [cv]; decide), if_pos cv, k1]
    rw [cv, List.append_nil] at k3
    exact ⟨M1, rfl, k2, k3⟩
  · have vp : 0 < v.length := List.length_pos_iff.mpr cv
    rw [if_neg (show ¬ nI v.length ≤ 0 from nI_ge (a := 0) vp (by omega)), if_neg cv, h.1]
    by_cases cr : r = []
    · obtain ⟨M1, k1, k2, k3⟩ := j60 r M h fMk.rf (by omega)
      rw [if_pos (show nI r.length ≤ 0 by rw [cr]; decide), if_pos cr, k1]
      rw [cr, List.nil_append] at k3
      exact ⟨M1, rfl, k2, k3⟩
    · have rp : 0 < r.length := List.length_pos_iff.mpr cr
      obtain ⟨p1, p2⟩ := h.put (k := 32)
      obtain ⟨M1, k1, k2, k3⟩ := j60 (r ++ [32]) _ p1 p2 (by rw [List.length_append]; exact Nat.le_refl _)
      rw [if_neg (show ¬ nI r.length ≤ 0 from nI_ge (a := 0) rp (by omega)), if_neg cr, if_pos (inb_nI (by omega) (by decide)), nI_clamp (by omega)]
      dsimp only [lt]
      rw [congrFun (zI_other (show (63 : Nat) ≠ 89 by decide)) 33, h.1, nI_1, show (32 : Int32) = nI 32 from rfl, k1]
      refine ⟨M1, rfl, k2, ?_⟩
      rw [List.append_assoc] at k3
      exact k3
theorem jnW_b {w v : List Nat} (h : v.length ≤ 60) : (jnW w v).length ≤ w.length + 61 := by
  rw [jnW_len]
  split
  · omega
  · split <;> omega
theorem build_ok {F t i n : Nat} {C : List Cls} {N : Nat → Option Nm} {r : List Nat × Nat} {M : zM} (hC : CT t C M) (ht : t < 3) (h12 : C.length ≤ 12) (hi : i < C.length) (hc : okCl (cg C i)) (hN : ∀ m, m < 1000 → MN (1000 * t + m) (N m) M) (hok : ∀ m, m < 1000 → ∀ x, N m = some x → okW x.1 ∧ x.2.2 ≤ 8) (hn : n < 1000) (hr : bldP N n (cg C i).2.2.1 (cg C i).2.2.2 ([], 0) = some r) (hF : 3000 < F) : ∃ M1, loopN (Mod_makeName_B14 F (nI t) (nI (12 * t + i)) (nI n)) F (0, nI (8 * (12 * t + i)), zI M 63 33 0) = some (1, nI r.2, 0, M1) ∧ fMk M M1 ∧ Md r.1 M1 ∧ r.1.length ≤ 488 ∧ r.2 ≤ 8 := by
  have ct := hC.2 i hi
  have c36 : 12 * t + i < 36 := by omega
  generalize cg C i = cl at *
  generalize 12 * t + i = c at *
  have p8 := ct.2.2.2.1
  have i8 : (8 : Int32) * nI c = nI (8 * c) := by rw [show (8 : Int32) = nI 8 from rfl, pk_mul]
  have ui : cl.2.2.1 ≤ 500 := by rcases hc.2.2.1 with q | q <;> omega
  have ctk : ∀ M1, fMk M M1 → CT1 c cl M1 := fun M1 f => by
    unfold CT1 PT1 at ct ⊢
    rw [f.1 65 (by decide) (by decide), f.1 66 (by decide) (by decide), f.1 67 (by decide) (by decide), f.1 68 (by decide) (by decide), f.1 69 (by decide) (by decide), f.1 70 (by decide) (by decide), f.1 71 (by decide) (by decide), f.1 72 (by decide) (by decide), f.1 73 (by decide) (by decide)]
    exact ct
  have key := loopN_inv (body := Mod_makeName_B14 F (nI t) (nI c) (nI n)) (I := fun j s => ∃ (M1 : zM) (z : List Nat × Nat), s = (nI z.2, nI (8 * c + j), M1) ∧ fMk M M1 ∧ Md z.1 M1 ∧ z.1.length ≤ 61 * j ∧ z.2 ≤ 8 ∧ bldP N n cl.2.2.1 (cl.2.2.2.drop j) z = some r) (Qx := fun q => ∃ M1, q = (1, nI r.2, 0, M1) ∧ fMk M M1 ∧ Md r.1 M1 ∧ r.1.length ≤ 488 ∧ r.2 ≤ 8) (N := cl.2.2.2.length) (F := F) (s := (0, nI (8 * c), zI M 63 33 0)) (fun j s hj hs => by
    obtain ⟨M1, z, rfl, f1, m1, zl, z8, hb⟩ := hs
    have ct1 := ctk M1 f1
    obtain ⟨⟨u1, u2⟩, u3⟩ := ct1.2.2.2.2.2 j hj
    have okq := hc.2.2.2.2 _ (pg_mem hj)
    have pz : cl.2.2.1 = 0 → pg cl.2.2.2 j = (0, false, (pg cl.2.2.2 j).2.2) := fun y => by
      rcases hc.2.2.1 with a | a
      · obtain ⟨_, _, l, hl⟩ := a
        have hj1 : j < 1 := by rw [hl] at hj; exact hj
        rw [hl, show j = 0 by omega]; rfl
      · omega
    rw [drop_p hj, bldP_c] at hb
    refine Or.inl ?_
    have i3 : ∀ a x : Nat, (12 : Int32) * nI a + nI x = nI (12 * a + x) := fun a x => by rw [show (12 : Int32) = nI 12 from rfl, pk_mul, nI_add]
    -- letters
    have j69 : (pg cl.2.2.2 j).1 = 0 → thr (pg cl.2.2.2 j) n cl.2.2.1 = true → ∃ s', Mod_makeName_J69 F (nI t) (nI c) (nI n) (nI z.2) (nI (8 * c + j)) M1 = some (0, s') ∧ ∃ (M1 : zM) (z : List Nat × Nat), s' = (nI z.2, nI (8 * c + (j + 1)), M1) ∧ fMk M M1 ∧ Md z.1 M1 ∧ z.1.length ≤ 61 * (j + 1) ∧ z.2 ≤ 8 ∧ bldP N n cl.2.2.1 (cl.2.2.2.drop (j + 1)) z = some r := fun q0 ht' => by
      obtain ⟨l12, l72, l73⟩ := u2 q0
      have pw : prtW N n cl.2.2.1 (pg cl.2.2.2 j) = some ((pg cl.2.2.2 j).2.2, 0) := by unfold prtW; rw [if_pos q0]
      rw [if_pos ht', pw] at hb
      dsimp only at hb
      have jb := jnW_b (w := z.1) (v := (pg cl.2.2.2 j).2.2) (by omega)
      obtain ⟨M2, k1, k2, k3⟩ := addB_ok (F := F) (x1 := nI t) (x2 := nI (8 * c + j)) (x3 := -1) (v := (pg cl.2.2.2 j).2.2) m1 (by omega) (by omega) (fun M' x f' hx => by
        unfold Mod_addBytes_B63
        dsimp only
        rw [if_neg (nI_ge hx (by omega)), if_neg (by decide), i3, if_pos (inb_nI (by omega) (by decide)), nI_clamp (by omega), f'.1 73 (by decide) (by decide), l73 x hx]) hF
      unfold Mod_makeName_J69 Mod_makeName_J81
      rw [if_neg (by decide)]
      unfold Mod_makeName_J105
      rw [if_pos (ge0 (by omega))]
      unfold Mod_makeName_J121 Mod_addBytes
      rw [if_neg (by decide), if_pos (inb_nI (by omega) (by decide)), nI_clamp (by omega), l72, k1, Option.bind_some]
      dsimp only [lt]
      rw [nI_1]
      refine ⟨_, rfl, M2, (jnW z.1 (pg cl.2.2.2 j).2.2, max z.2 0), by rw [show max z.2 0 = z.2 by omega]; rfl, f1.tr k2, k3, by show (jnW z.1 (pg cl.2.2.2 j).2.2).length ≤ 61 * (j + 1); omega, by show max z.2 0 ≤ 8; omega, hb⟩
    unfold Mod_makeName_B14
    dsimp only [lt]
    rw [if_pos (inb_nI c36 (by decide)), nI_clamp (by omega), ct1.2.2.2.2.1, i8, nI_add, if_neg (nI_ge (by omega) (by omega)), ct1.1]
    by_cases d0 : cl.2.2.1 = 0
    · rw [decide_eq_true d0, if_neg (show ¬ bI true = 0 by decide)]
      have pq := pz d0
      unfold Mod_makeName_J50
      rw [if_pos (inb_nI c36 (by decide)), nI_clamp (by omega), ct1.1, decide_eq_true d0, if_neg (show ¬ bI true = 0 by decide)]
      exact j69 (by rw [pq]) (by unfold thr; rw [pq]; rfl)
    · have uu : 2 ≤ cl.2.2.1 ∧ cl.2.2.1 ≤ 500 := by
        rcases hc.2.2.1 with y | y
        · exact absurd y.1 d0
        · exact y
      rw [decide_eq_false d0, if_pos (show bI false = 0 from rfl), thereM ct1 hj c36 uu hn, Option.bind_some]
      dsimp only
      cases et : thr (pg cl.2.2.2 j) n cl.2.2.1 with
      | false =>
        rw [et, if_neg (show ¬ false = true by decide)] at hb
        rw [if_pos (show bI false = 0 from rfl), nI_1]
        exact ⟨_, rfl, M1, z, rfl, f1, m1, by omega, z8, hb⟩
      | true =>
        rw [if_neg (show ¬ bI true = 0 by decide)]
        unfold Mod_makeName_J50
        rw [if_pos (inb_nI c36 (by decide)), nI_clamp (by omega), ct1.1, decide_eq_false d0, if_pos (show bI false = 0 from rfl), if_pos (inb_nI (by omega) (by decide)), nI_clamp (by omega), u1]
        by_cases q0 : (pg cl.2.2.2 j).1 = 0
        · rw [if_pos (show nI (kM (pg cl.2.2.2 j).1) = 0 by rw [q0]; rfl)]
          exact j69 q0 et
        · have kk : isK (pg cl.2.2.2 j).1 = true := by
            rcases okq with y | y
            · exact absurd y.1 q0
            · exact y.1
          have k5 := kM_K kk
          rw [if_neg (show ¬ nI (kM (pg cl.2.2.2 j).1) = 0 from fun y => by have := (nI_eq (b := 0) (by omega) (by decide)).mp y; omega), numM ct1 hj c36 uu hn kk, Option.bind_some]
          dsimp only
          have ab := ask_b (k := (pg cl.2.2.2 j).1) hn uu
          rw [et, if_pos rfl] at hb
          unfold prtW at hb
          rw [if_neg q0] at hb
          by_cases am : askN (pg cl.2.2.2 j).1 n cl.2.2.1 < 1000
          · rw [if_pos am] at hb
            generalize askN (pg cl.2.2.2 j).1 n cl.2.2.1 = m at *
            cases en : N m with
            | none => rw [en] at hb; cases hb
            | some x =>
              obtain ⟨v, b, e⟩ := x
              rw [en] at hb
              dsimp only at hb
              have mn := hN m am
              rw [en] at mn
              obtain ⟨ov, e8⟩ := hok m am (v, b, e) en
              have lv : v.length ≤ 60 := ov.1
              have e8 : e ≤ 8 := e8
              have mn1 : MN (1000 * t + m) (some (v, b, e)) M1 := mn.same (fun b' b1 b2 => ⟨f1.1 b' (by omega) (by omega), by rw [f1.2.1]⟩)
              obtain ⟨n1', n2', n3', n4', n5'⟩ := mn1
              have jb := jnW_b (w := z.1) (v := v) lv
              obtain ⟨M2, k1, k2, k3⟩ := addB_ok (F := F) (x1 := nI t) (x2 := nI (8 * c + j)) (x3 := nI m) (v := v) m1 lv (by omega) (fun M' x f' hx => by
                unfold Mod_addBytes_B63
                dsimp only
                rw [if_neg (nI_ge hx (by omega)), if_pos (ge0 (by omega)), ix_t, Mod_byteOf_ok (by omega) (by omega), Option.bind_some]
                have : mB M' (1000 * t + m) x = nI (v.getD x 0) := by rw [← n5' x hx]; unfold mB; rw [f'.2.1]
                dsimp only
                rw [this]) hF
              unfold Mod_makeName_J81
              rw [if_pos (ge0 (by omega)), ix_t, if_pos (inb_nI (by omega) (by decide)), nI_clamp (by omega), n2']
              unfold Mod_makeName_J105
              have j121 : ∀ y : Int32, Mod_makeName_J121 F (nI t) (nI c) (nI n) (nI (8 * c + j)) (nI m) y M1 = some (0, y, nI (8 * c + (j + 1)), M2) := fun y => by
                unfold Mod_makeName_J121 Mod_addBytes
                rw [if_pos (ge0 (by omega)), ix_t, if_pos (inb_nI (by omega) (by decide)), nI_clamp (by omega), n1', k1, Option.bind_some]
                dsimp only [lt]
                rw [nI_1]; rfl
              have emx : (if nI e ≤ nI z.2 then Mod_makeName_J121 F (nI t) (nI c) (nI n) (nI (8 * c + j)) (nI m) (nI z.2) M1 else Mod_makeName_J121 F (nI t) (nI c) (nI n) (nI (8 * c + j)) (nI m) (nI e) M1) = some (0, nI (max z.2 e), nI (8 * c + (j + 1)), M2) := by
                by_cases y : e ≤ z.2
                · rw [if_pos (nI_le y (by omega)), j121, show max z.2 e = z.2 by omega]
                · rw [if_neg (nI_ge (by omega) (by omega)), j121, show max z.2 e = e by omega]
              rw [emx]
              exact ⟨_, rfl, M2, (jnW z.1 v, max z.2 e), rfl, f1.tr k2, k3, by show (jnW z.1 v).length ≤ 61 * (j + 1); omega, by show max z.2 e ≤ 8; omega, hb⟩
          · rw [if_neg am] at hb; cases hb) (fun s hs => by
    obtain ⟨M1, z, rfl, f1, m1, zl, z8, hb⟩ := hs
    rw [List.drop_length] at hb
    injection hb with hb
    subst hb
    refine ⟨_, ?_, (fun q => by cases q), M1, rfl, f1, m1, by omega, z8⟩
    have ct1 := ctk M1 f1
    unfold Mod_makeName_B14
    dsimp only
    rw [if_pos (inb_nI c36 (by decide)), nI_clamp (by omega), ct1.2.2.2.2.1, i8, nI_add, if_pos (nI_le (Nat.le_refl _) (by omega))]) (by omega) ⟨_, ([], 0), rfl, ⟨fun b b1 _ => zI_other b1, rfl, fun k hk => zI_ne (Or.inr hk)⟩, ⟨zI_in, fun x hx => absurd hx (Nat.not_lt_zero x)⟩, by show 0 ≤ 61 * 0; omega, by decide, hr⟩
  obtain ⟨q, e, M1, rfl, rr⟩ := key
  exact ⟨M1, e, rr⟩

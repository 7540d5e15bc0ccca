theorem jmx_nI {a b : Nat} (ha : a < 2 ^ 31) (hb : b < 2 ^ 31) : jmx (nI a) (nI b) = nI (max a b) := by
  unfold jmx
  by_cases c : a < b
  · rw [if_pos (nI_lt c (by omega)), show max a b = b by omega]
  · rw [if_neg (nI_nlt (by omega) (by omega)), show max a b = a by omega]
theorem XN.fS {t n : Nat} {q : Option Nm} {M M1 : zM} (h : XN (14 + 10 * t) n q M) (ht : t < 3) (f : fS M M1) : XN (14 + 10 * t) n q M1 := h.same (fun b b1 b2 => ⟨f.1 b (by omega) (by omega) (by omega), f.2 b (by omega) (by omega)⟩)
theorem has_big {F a m : Nat} {M : zM} (h : 1000 ≤ m) (h2 : m < 2 ^ 31) : Ton_has F a (nI m) M = some (0, M) := by
  unfold Ton_has
  rw [if_neg (nI_pos (by omega)), if_pos (show (1000 : Int32) ≤ nI m from nI_le (a := 1000) h h2), n0]
theorem addN_ok {F t d m : Nat} {N : Nat → Option Nm} {w : List Nat} {M : zM} (h : SL w d M) (hN : ∀ n, n < 1000 → XN (14 + 10 * t) n (N n) M) (ht : t < 3) (hd : d < 100) (hm : m < 5000) (hF : 3000 < F) : match (if m < 1000 then N m else none) with
    | none => Nam_addName F (14 + 10 * t) (nI m) M = some (0, M)
    | some x => ∃ M1, Nam_addName F (14 + 10 * t) (nI m) M = some (bI (decide ((jnW w x.1).length ≤ 60)), M1) ∧ fS M M1 ∧ ((jnW w x.1).length ≤ 60 → SL (jnW w x.1) (max d x.2.2) M1) := by
  by_cases cm : m < 1000
  · rw [if_pos cm]
    have hx := hN m cm
    have hh := has_x (F := F) hx cm
    cases e : N m with
    | none =>
      rw [e] at hh
      show Nam_addName F (14 + 10 * t) (nI m) M = some (0, M)
      unfold Nam_addName
      rw [hh, Option.bind_some]
      rfl
    | some x =>
      obtain ⟨v, b, e'⟩ := x
      rw [e] at hh hx
      have hh : ∀ M1, fS M M1 → Ton_has F (14 + 10 * t) (nI m) M1 = some (1, M1) := fun M1 f1 => has_x (F := F) (hx.fS ht f1) cm
      obtain ⟨x1, x2, x3, x4, x5, x6, x7, x8, x9, x10⟩ := hx
      have lv := x1.1
      have lr := runW_len v
      have cl : (nI m).toNatClampNeg = m := nI_clamp (by omega)
      have hi := inb_nI (n := 1000) cm (by decide)
      have f0 : fS M (zI M 44 4 (nI (max d e'))) := ⟨fun b b1 b2 b3 => zI_other b1, fun _ _ _ => rfl⟩
      have s0 : SL w (max d e') (zI M 44 4 (nI (max d e'))) := ⟨h.1.same (zI_other (by decide)) rfl, h.2.1.same (zI_other (by decide)) rfl, zI_in⟩
      have st : Nam_addName F (14 + 10 * t) (nI m) M = if nI v.length = 0 then some (1, zI M 44 4 (nI (max d e'))) else (Nam_addGap F (zI M 44 4 (nI (max d e')))).bind fun (r_14, M_15) => if r_14 = 0 then some ((0 : Int32), M_15) else (Ton_appendTo F (14 + 10 * t) 45 47 (nI m) M_15).bind fun (r_18, M_19) => if r_18 = 0 then some ((0 : Int32), M_19) else some (1, M_19) := by
        unfold Nam_addName
        rw [hh M fS.rf, Option.bind_some]
        dsimp only
        rw [if_neg (by decide)]
        unfold Ton_depthOf Ton_sizeOf
        rw [hh M fS.rf, Option.bind_some]
        dsimp only [lt]
        rw [if_neg (by decide), if_pos hi, cl, x7, Option.bind_some]
        dsimp only
        rw [h.2.2, jmx_nI (by omega) (by omega), hh _ f0, Option.bind_some]
        dsimp only
        rw [if_neg (by decide), if_pos hi, f0.1 (14 + 10 * t + 5) (by omega) (by omega) (by omega), x5, Option.bind_some]
        rfl
      show ∃ M1, Nam_addName F (14 + 10 * t) (nI m) M = some (bI (decide ((jnW w v).length ≤ 60)), M1) ∧ fS M M1 ∧ ((jnW w v).length ≤ 60 → SL (jnW w v) (max d e') M1)
      have l60 := h.1.1.1
      by_cases cv : v = []
      · have ej : jnW w v = w := by unfold jnW; rw [if_pos cv]
        rw [st, if_pos (show nI v.length = 0 by rw [cv]; rfl), ej, decide_eq_true l60]
        exact ⟨_, rfl, f0, fun _ => s0⟩
      · have vz : ¬ nI v.length = 0 := fun z => cv (List.length_eq_zero_iff.mp ((nI_eq (b := 0) (by omega) (by decide)).mp z))
        rw [st, if_neg vz]
        have jl := jnW_len (w := w) (v := v)
        rw [if_neg cv] at jl
        obtain ⟨g1, g2, g3⟩ := gap_ok (F := F) s0
        have hzz := zN_tn ht
        have main : ∀ (u : List Nat) (Mg : zM), Nam_addGap F (zI M 44 4 (nI (max d e'))) = some (1, Mg) → XL 45 u Mg → XL 47 (runW w) Mg → Mg.1 44 4 = nI (max d e') → fS M Mg → jnW w v = u ++ v → w.length ≤ u.length → ∃ M1, ((Nam_addGap F (zI M 44 4 (nI (max d e')))).bind fun (r_14, M_15) => if r_14 = 0 then some ((0 : Int32), M_15) else (Ton_appendTo F (14 + 10 * t) 45 47 (nI m) M_15).bind fun (r_18, M_19) => if r_18 = 0 then some ((0 : Int32), M_19) else some (1, M_19)) = some (bI (decide ((jnW w v).length ≤ 60)), M1) ∧ fS M M1 ∧ ((jnW w v).length ≤ 60 → SL (jnW w v) (max d e') M1) := fun u Mg e0 e1 e2 e3 e4 e5 e6 => by
          have el : (jnW w v).length = u.length + v.length := by rw [e5, List.length_append]
          have lrw := runW_len w
          rw [e0, Option.bind_some]
          dsimp only
          rw [if_neg (by decide)]
          unfold Ton_appendTo Ton_sizeOf Ton_lettersOf
          rw [hh Mg e4, Option.bind_some]
          dsimp only
          rw [if_neg (by decide), if_pos hi, cl, e4.1 (14 + 10 * t + 5) (by omega) (by omega) (by omega), x5, Option.bind_some]
          dsimp only
          obtain ⟨M1, k1, k2, k3, k4⟩ := row_ok (F := F) (a0 := 45) (a1 := 14 + 10 * t + 1) (n := m) (v := v) e1 x1 (by omega) (by omega) (by omega) (fun i hi => by rw [e4.2 _ (by omega) (by omega)]; exact x9 i hi) hF
          have f1 : fS M M1 := e4.tr ⟨fun b b1 b2 b3 => k2 b b2, fun b b1 b2 => k3 b b1⟩
          rw [k1, Option.bind_some, el]
          dsimp only
          by_cases c : u.length + v.length ≤ 60
          · rw [decide_eq_true c, if_neg (show ¬ bI true = 0 by decide), hh M1 f1, Option.bind_some]
            dsimp only
            rw [if_neg (by decide), if_pos hi, f1.1 (14 + 10 * t + 6) (by omega) (by omega) (by omega), x6, Option.bind_some]
            dsimp only
            obtain ⟨M2, q1, q2, q3, q4⟩ := row_ok (F := F) (a0 := 47) (a1 := 14 + 10 * t + 3) (n := m) (w := runW w) (v := runW v) (e2.fr (c := 45) k2 k3 (by decide)) (okW_run x1) (by omega) (by omega) (by omega) (fun i hi => by rw [f1.2 _ (by omega) (by omega)]; exact x10 i hi) hF
            rw [q1, Option.bind_some, decide_eq_true (show (runW w).length + (runW v).length ≤ 60 by omega)]
            refine ⟨M2, rfl, f1.tr ⟨fun b b1 b2 b3 => q2 b b3, fun b b1 b2 => q3 b b2⟩, fun _ => ⟨?_, ?_, by rw [q2 44 (by decide), k2 44 (by decide)]; exact e3⟩⟩
            · rw [e5]; exact (k4 c).fr (c := 47) q2 q3 (by decide)
            · rw [runW_jn]; exact q4 (by omega)
          · rw [decide_eq_false c]
            exact ⟨M1, rfl, f1, fun q => absurd q c⟩
        by_cases cw : w = []
        · exact main w _ (g1 cw) s0.1 s0.2.1 s0.2.2 f0 (by unfold jnW; rw [if_neg cv, if_pos cw, cw]; rfl) (Nat.le_refl _)
        · by_cases cl' : w.length + 1 ≤ 60
          · obtain ⟨Mg, k1, k2, k3, k4, k5⟩ := g2 cw cl'
            exact main (w ++ [32]) Mg k1 k2 k3 k4 (f0.tr k5) (by unfold jnW; rw [if_neg cv, if_neg cw]; simp) (by rw [List.length_append]; omega)
          · rw [if_neg cw] at jl
            refine ⟨_, ?_, f0, fun q => by omega⟩
            rw [g3 cw (by omega), Option.bind_some, decide_eq_false (by omega)]
            rfl
  · rw [if_neg cm]
    show Nam_addName F (14 + 10 * t) (nI m) M = some (0, M)
    unfold Nam_addName
    rw [has_big (by omega) (by omega), Option.bind_some]
    rfl
theorem ask_n {F k n u : Nat} {M : zM} (hk : isK k = true) (hn : n < 1000) (hu : 2 ≤ u ∧ u ≤ 500) : Nam_asked F (nI k) (nI n) (nI (n % u)) (nI u) M = some (nI (askN k n u), M) ∧ askN k n u < 5000 := by
  have r1 : n % u < u := Nat.mod_lt _ (by omega)
  have r2 : n % u ≤ n := Nat.mod_le _ _
  have r3 : n / u ≤ n := Nat.div_le_self _ _
  have hu0 : ¬ nI u = 0 := fun z => by have := (nI_eq (b := 0) (by omega) (by decide)).mp z; omega
  unfold Nam_asked askN
  rcases of_decide_eq_true hk with y | y | y | y | y <;> subst y
  · rw [if_neg (by decide), if_neg (by decide), if_pos (by decide), if_neg (show ¬ nI u ≤ 0 from nI_ge (a := 0) (by omega) (by omega)), if_pos hu0, if_pos rfl, pk_div (by omega) (by omega) (by omega)]
    exact ⟨rfl, by omega⟩
  · rw [if_neg (by decide), if_neg (by decide), if_neg (by decide), if_neg (by decide), if_pos (by decide), if_neg (by decide), if_pos rfl, pk_sub r2]
    exact ⟨rfl, by omega⟩
  · rw [if_neg (by decide), if_neg (by decide), if_neg (by decide), if_pos (by decide), if_neg (by decide), if_neg (by decide), if_pos rfl]
    exact ⟨rfl, by omega⟩
  · rw [if_pos (by decide), if_neg (by decide), if_neg (by decide), if_neg (by decide), if_pos rfl, pk_sub (by omega)]
    exact ⟨rfl, by omega⟩
  · rw [if_neg (by decide), if_pos (by decide), if_neg (by decide), if_neg (by decide), if_neg (by decide), if_neg (by decide), pk_sub r2, nI_add]
    exact ⟨rfl, by omega⟩

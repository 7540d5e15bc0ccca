/-! the class makes names: rounds -/
def Snd (C : List Cls) (N : Nat → Option Nm) : Prop := ∀ m x, m < 1000 → N m = some x → NM C m = some x
def Cls0 (C : List Cls) (N : Nat → Option Nm) : Prop := ∀ m, m < 1000 → ∀ i, chs C m = some i → N m = none → nmO N (cg C i) m = none
theorem nmD_8 {C : List Cls} {k m : Nat} {x : Nm} (h : nmD C k m = some x) : NM C m = some x := by
  have h1 := nmD_dp k m x h
  refine h1.2.2.2 8 ?_
  cases k with
  | zero => cases h
  | succ k =>
    obtain ⟨i, r, _, h2, rfl⟩ := nmD_some.mp h
    have := (nmO_some.mp h2).2.2
    show r.2 + 1 ≤ 8
    omega
theorem nmO_up {C : List Cls} {N N' : Nat → Option Nm} {c : Cls} {n : Nat} {r : List Nat × Nat} (h : nmO N c n = some r) (hN : ∀ m x, m < 1000 → N m = some x → N' m = some x) : nmO N' c n = some r := by
  have h3 := nmO_some.mp h
  exact nmO_some.mpr ⟨bldP_t _ _ _ h3.1 (fun m x hm hx _ => hN m x hm hx), h3.2⟩
theorem Cls0.all {C : List Cls} {N : Nat → Option Nm} (h : Cls0 C N) (hs : Snd C N) : ∀ k m x, m < 1000 → nmD C k m = some x → N m = some x := by
  intro k
  induction k with
  | zero => intro m x _ hx; cases hx
  | succ k ih =>
    intro m x hm hx
    obtain ⟨i, r, h1, h2, h3⟩ := nmD_some.mp hx
    cases e : N m with
    | none =>
      have := nmO_up (C := C) h2 (fun m' y hm' hy => ih m' y hm' hy)
      rw [h m hm i h1 e] at this
      cases this
    | some y =>
      have a := hs m y hm e
      rw [nmD_8 hx] at a
      exact a.symm
theorem all_eq {C : List Cls} {N : Nat → Option Nm} (h : ∀ m x, m < 1000 → NM C m = some x → N m = some x) (hs : Snd C N) : ∀ m, m < 1000 → N m = NM C m := by
  intro m hm
  cases e : NM C m with
  | some x => exact h m x hm e
  | none =>
    cases e2 : N m with
    | none => rfl
    | some y => have := hs m y hm e2; rw [e] at this; cases this
theorem oI_1 {C : List Cls} {n : Nat} (h12 : C.length ≤ 12) : oI (chs C n) = -1 ↔ chs C n = none := by
  cases e : chs C n with
  | none => exact ⟨fun _ => rfl, fun _ => rfl⟩
  | some i => exact ⟨fun q => absurd q (nlen_ne (by have := chs_lt e; omega)), fun q => by cases q⟩
theorem round_ok {F t k : Nat} {x3 : Int32} {C : List Cls} {N0 : Nat → Option Nm} {M0 M : zM} (h : NB t C N0 M0 M) (hs : Snd C N0) (hk : ∀ m x, m < 1000 → nmD C k m = some x → N0 m = some x) (ht : t < 3) (h12 : C.length ≤ 12) (hok : ∀ c ∈ C, okCl c) (hF : 3000 < F) : ∃ M1 N1 g, loopN (Nam_nameAll_B34 F (14 + 10 * t) x3) F (0, 0, M) = some (1, bI g, 0, M1) ∧ NB t C N1 M0 M1 ∧ Snd C N1 ∧ (∀ m x, m < 1000 → nmD C (k + 1) m = some x → N1 m = some x) ∧ (g = false → Cls0 C N1) := by
  have key := loopN_inv (body := Nam_nameAll_B34 F (14 + 10 * t) x3) (I := fun n s => ∃ M1 N1 g, s = (bI g, nI n, M1) ∧ NB t C N1 M0 M1 ∧ Snd C N1 ∧ (∀ m x, N0 m = some x → N1 m = some x) ∧ (∀ m x, m < n → nmD C (k + 1) m = some x → N1 m = some x) ∧ (g = false → N1 = N0 ∧ ∀ m, m < n → ∀ i, chs C m = some i → N0 m = none → nmO N0 (cg C i) m = none)) (Qx := fun q => ∃ M1 N1 g, q = (1, bI g, 0, M1) ∧ NB t C N1 M0 M1 ∧ Snd C N1 ∧ (∀ m x, m < 1000 → nmD C (k + 1) m = some x → N1 m = some x) ∧ (g = false → Cls0 C N1)) (N := 1000) (F := F) (s := (0, 0, M)) (fun n s hn hs' => by
    obtain ⟨M1, N1, g, rfl, nb, s1, up, cm, cl⟩ := hs'
    refine Or.inl ?_
    unfold Nam_nameAll_B34
    dsimp only [lt]
    rw [if_neg (show ¬ (1000 : Int32) ≤ nI n from nI_ge (b := 1000) hn (by decide)), if_pos (inb_nI hn (by decide)), nI_clamp (by omega), nb.2.2.1 n hn]
    -- nothing new at n
    have skip : ∀ M2, NB t C N1 M0 M2 → (∀ x, nmD C (k + 1) n = some x → N1 n = some x) → (g = false → ∀ i, chs C n = some i → N0 n = none → nmO N0 (cg C i) n = none) → ∃ M1 N1 g', (bI g, nI n + 1, M2) = (bI g', nI (n + 1), M1) ∧ NB t C N1 M0 M1 ∧ Snd C N1 ∧ (∀ m x, N0 m = some x → N1 m = some x) ∧ (∀ m x, m < n + 1 → nmD C (k + 1) m = some x → N1 m = some x) ∧ (g' = false → N1 = N0 ∧ ∀ m, m < n + 1 → ∀ i, chs C m = some i → N0 m = none → nmO N0 (cg C i) m = none) := fun M2 nb2 a1 a2 => by
      refine ⟨M2, N1, g, by rw [nI_1], nb2, s1, up, fun m x hm hx => ?_, fun hg => ⟨(cl hg).1, fun m hm i hi hN => ?_⟩⟩
      · by_cases z : m = n
        · subst z; exact a1 x hx
        · exact cm m x (by omega) hx
      · by_cases z : m = n
        · subst z; exact a2 hg i hi hN
        · exact (cl hg).2 m (by omega) i hi hN
    cases ec : chs C n with
    | none =>
      rw [if_pos (show oI none = -1 from rfl)]
      refine ⟨_, rfl, skip M1 nb (fun x hx => ?_) (fun _ i hi => ?_)⟩
      · obtain ⟨i, r, h1, _⟩ := nmD_some.mp hx; rw [ec] at h1; cases h1
      · rw [ec] at hi; cases hi
    | some i =>
      have hi := chs_lt ec
      rw [if_neg (show ¬ oI (some i) = -1 from nlen_ne (by omega)), has_x (nb.2.1 n hn) hn, Option.bind_some]
      dsimp only
      cases en : N1 n with
      | some y =>
        rw [if_neg (show ¬ bI (some y).isSome = 0 from fun q => absurd (show (1 : Int32) = 0 from q) (by decide))]
        refine ⟨_, rfl, skip M1 nb (fun x hx => ?_) (fun hg i' hi' hN => ?_)⟩
        · have a := s1 n y hn en
          rw [nmD_8 hx] at a
          rw [en]; exact a.symm
        · rw [(cl hg).1] at en; rw [en] at hN; cases hN
      | none =>
        rw [if_pos (show bI (none : Option Nm).isSome = 0 from rfl), nb.2.2.1 n hn, ec]
        obtain ⟨M2, q1, q2, q3⟩ := spell_ok (F := F) nb.1 hi h12 (hok _ (cg_mem hi)) nb.2.1 ht hn hF
        have q1 : Nam_spell F (14 + 10 * t) (oI (some i)) (nI n) M1 = some (bI (nmO N1 (cg C i) n).isSome, M2) := q1
        rw [q1, Option.bind_some]
        dsimp only
        cases er : nmO N1 (cg C i) n with
        | none =>
          rw [if_pos (show bI (none : Option (List Nat × Nat)).isSome = 0 from rfl)]
          refine ⟨_, rfl, skip M2 (nb.fS ht q2) (fun x hx => ?_) (fun hg i' hi' hN => ?_)⟩
          · obtain ⟨i', r, h1, h2, _⟩ := nmD_some.mp hx
            rw [ec] at h1
            injection h1 with h1
            subst h1
            have := nmO_up (C := C) h2 (fun m y hm hy => up m y (hk m y hm hy))
            rw [er] at this; cases this
          · rw [ec] at hi'
            injection hi' with hi'
            subst hi'
            rw [(cl hg).1] at er; exact er
        | some r =>
          have sl := q3 r er
          have h3 := nmO_some.mp er
          have nb2 := nb.fS ht q2
          obtain ⟨M3, k1, k2⟩ := put_ok (F := F) (i := i) nb2 ht hn (by omega) h3.2.2 en sl hF
          have nmn := NM_fix (C := C) s1 ec er
          rw [if_neg (show ¬ bI (some r).isSome = 0 from fun q => absurd (show (1 : Int32) = 0 from q) (by decide)), nb2.2.2.1 n hn, ec, sl.2.2, nI_1, show oI (some i) = nI i from rfl, k1, Option.bind_some]
          dsimp only
          refine ⟨_, rfl, M3, upN N1 n (r.1, i, r.2 + 1), true, by rw [nI_1]; rfl, k2, fun m x hm hx => ?_, fun m x hx => ?_, fun m x hm hx => ?_, fun q => by cases q⟩
          · unfold upN at hx
            by_cases z : m = n
            · rw [if_pos z] at hx
              injection hx with hx
              rw [z, ← hx]; exact nmn
            · rw [if_neg z] at hx; exact s1 m x hm hx
          · unfold upN
            by_cases z : m = n
            · subst z
              have := up m x hx
              rw [en] at this; cases this
            · rw [if_neg z]; exact up m x hx
          · unfold upN
            by_cases z : m = n
            · subst z
              rw [if_pos rfl]
              have a := nmD_8 hx
              rw [nmn] at a
              exact a
            · rw [if_neg z]; exact cm m x (by omega) hx) (fun s hs' => by
    obtain ⟨M1, N1, g, rfl, nb, s1, up, cm, cl⟩ := hs'
    refine ⟨(1, bI g, 0, M1), ?_, (fun q => by cases q), M1, N1, g, rfl, nb, s1, fun m x hm hx => cm m x hm hx, fun hg => ?_⟩
    · unfold Nam_nameAll_B34
      exact if_pos (by decide)
    · obtain ⟨c1, c2⟩ := cl hg
      rw [c1]
      exact fun m hm i hi hN => c2 m hm i hi hN) (by omega) ⟨M, N0, false, rfl, h, hs, fun _ _ hx => hx, fun m x hm => absurd hm (Nat.not_lt_zero m), fun _ => ⟨rfl, fun m hm => absurd hm (Nat.not_lt_zero m)⟩⟩
  obtain ⟨q, e, M1, N1, g, rfl, r⟩ := key
  exact ⟨M1, N1, g, e, r⟩
theorem named_n : (named (0, fun _ => none)).length = 0 := by
  unfold named
  rw [List.filter_eq_nil_iff.mpr (fun a _ => by simp)]
  rfl
theorem nameAll_ok {F t : Nat} {C : List Cls} {M : zM} (hC : CX C M) (ht : t < 3) (h12 : C.length ≤ 12) (hok : ∀ c ∈ C, okCl c) (hF : 3000 < F) : ∃ M1 N, Nam_nameAll F (14 + 10 * t) M = some ((), M1) ∧ NB t C N M M1 ∧ ∀ n, n < 1000 → N n = NM C n := by
  have zk : zK (14 + 10 * t) = 9 := by rcases (show t = 0 ∨ t = 1 ∨ t = 2 by omega) with rfl | rfl | rfl <;> rfl
  have e1 := restart_ok (F := F) (a := 14 + 10 * t) (x := nI C.length) (M := M) zk (by omega)
  obtain ⟨z0, z1, z9, z10, z5⟩ := zRest_0 (M := M) (a := 14 + 10 * t) (x := nI C.length)
  have zo : ∀ b, b ≠ 14 + 10 * t → b ≠ 14 + 10 * t + 5 → (zRest M (14 + 10 * t) (nI C.length)).1 b = M.1 b := fun b b1 b2 => zRest_other b1 b2
  have z2 : (zRest M (14 + 10 * t) (nI C.length)).2 = M.2 := rfl
  generalize zRest M (14 + 10 * t) (nI C.length) = MR at *
  have cR : CX C MR := hC.same (fun b b1 b2 => ⟨zo b (by omega) (by omega), by rw [z2]⟩)
  obtain ⟨M2, e2, f2, g2⟩ := chs_ok (F := F) cR h12 hok hF
  have nb0 : NB t C (fun _ => none) M M2 := by
    have ea := f2.1 (14 + 10 * t) (by omega)
    refine ⟨cR.same (fun b b1 b2 => ⟨f2.1 b (by omega), by rw [f2.2]⟩), fun n hn => ?_, g2, by rw [ea]; exact z0, by rw [ea, named_n]; exact z1, by rw [ea]; exact z9, by rw [ea]; exact z10, fun b b1 b2 => ⟨(f2.1 b (by omega)).trans (zo b (by omega) (by omega)), by rw [f2.2, z2]⟩⟩
    show M2.1 (14 + 10 * t + 5) n = -1
    rw [f2.1 _ (by omega)]; exact z5 n hn
  have key := loopN_inv (body := Nam_nameAll_B19 F (14 + 10 * t)) (I := fun k s => ∃ M1 N1 g, s = (bI g, nI k, M1) ∧ NB t C N1 M M1 ∧ Snd C N1 ∧ (∀ m x, m < 1000 → nmD C k m = some x → N1 m = some x) ∧ (g = false → Cls0 C N1)) (Qx := fun q => ∃ M1 N1, q = (1, 0, 0, M1) ∧ NB t C N1 M M1 ∧ ∀ m, m < 1000 → N1 m = NM C m) (N := 8) (F := F) (s := (1, 0, M2)) (fun k s hk hs' => by
    obtain ⟨M1, N1, g, rfl, nb, s1, cm, cl⟩ := hs'
    unfold Nam_nameAll_B19
    dsimp only [lt]
    rw [if_neg (show ¬ (8 : Int32) ≤ nI k from nI_ge (b := 8) hk (by decide))]
    cases g with
    | false =>
      rw [if_pos (show bI false = 0 from rfl)]
      exact Or.inr ⟨_, rfl, (fun q => by cases q), M1, N1, rfl, nb, all_eq (fun m x hm hx => (cl rfl).all s1 8 m x hm hx) s1⟩
    | true =>
      obtain ⟨M3, N3, g3, k1, k2, k3, k4, k5⟩ := round_ok (F := F) (x3 := nI k) nb s1 cm ht h12 hok hF
      rw [if_neg (show ¬ bI true = 0 by decide), k1, Option.bind_some]
      dsimp only
      rw [if_pos rfl, nI_1]
      exact Or.inl ⟨_, rfl, M3, N3, g3, rfl, k2, k3, k4, k5⟩) (fun s hs' => by
    obtain ⟨M1, N1, g, rfl, nb, s1, cm, cl⟩ := hs'
    refine ⟨(1, 0, 0, M1), ?_, (fun q => by cases q), M1, N1, rfl, nb, all_eq cm s1⟩
    unfold Nam_nameAll_B19
    exact if_pos (by decide)) (by omega) ⟨M2, fun _ => none, true, rfl, nb0, fun m x _ hx => (by cases hx), fun m x _ hx => (by cases hx), fun q => by cases q⟩
  obtain ⟨q, e3, M3, N3, rfl, nb3, eq3⟩ := key
  refine ⟨M3, N3, ?_, nb3, eq3⟩
  unfold Nam_nameAll Cla_count
  rw [Option.bind_some, hC.1]
  dsimp only
  rw [e1, Option.bind_some]
  dsimp only
  rw [e2, Option.bind_some]
  dsimp only
  rw [e3, Option.bind_some]
  rfl

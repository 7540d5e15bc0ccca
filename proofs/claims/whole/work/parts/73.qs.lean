theorem rng_eq {w kw : List Nat} {s e : Nat} (h1 : s ≤ e) (h2 : e ≤ w.length) : rng w s e = kw ↔ e - s = kw.length ∧ ∀ j, j < kw.length → gB w (s + j) = kw.getD j 0 := by
  have hl := rng_len h1 h2
  constructor
  · intro q
    refine ⟨by rw [← q]; exact hl.symm, fun j hj => ?_⟩
    rw [← q] at hj ⊢
    rw [rng_get (by omega), gB_in (by omega)]
  · rintro ⟨q1, q2⟩
    exact list_getD_ext (by omega) (fun j hj => by rw [rng_get (by omega), gB_in (by omega)]; exact q2 j (by omega))
def kwA (a b c d : Nat) : List Nat := if d = 0 then (if c = 0 then [a, b] else [a, b, c]) else [a, b, c, d]
theorem coming_ok {F a b c d p : Nat} {w : List Nat} {M : zM} (hB : okB w) (hT : MT w M) (hp : p ≤ w.length) (hc : a < 256 ∧ b < 256 ∧ c < 256 ∧ d < 256) (hd : c = 0 → d = 0) (hF : 3000 < F) : Mod_isComing F (nI a) (nI b) (nI c) (nI d) (mr M p) = some (bI (isW (kwA a b c d) w (skB w p)), mr (zI M 63 31 (nI (enL w (skB w p)))) (skB w p)) := by
  have h240 := hB.1
  have s2 : skB w p ≤ w.length := (wh_sp qB hp).2.1
  unfold Mod_isComing
  rw [here_ok hB hT hp hF, Option.bind_some]
  dsimp only [lt]
  rw [mr_p]
  generalize skB w p = s at *
  have a2 := wh_sp qL s2
  have e1 : s ≤ enL w s := a2.1
  have e2 : enL w s ≤ w.length := a2.2.1
  have e4 : enL w s < w.length → qL (gB w (enL w s)) = false := a2.2.2.2
  have key := loopN_inv (body := Mod_isComing_B12 F (nI a) (nI b) (nI c) (nI d)) (I := fun i z => z = (nI (s + i), mr M s) ∧ s + i ≤ w.length ∧ wh qL w (s + i) = wh qL w s) (Qx := fun z => z = (1, nI (wh qL w s), mr M s)) (N := w.length - s) (F := F) (s := (nI s, mr M s)) (fun i z hi' hz => by
    obtain ⟨rfl, h1, h2⟩ := hz
    have hlt : s + i < w.length := by omega
    unfold Mod_isComing_B12
    dsimp only [lt]
    rw [hT.mr.1, if_neg (nI_ge hlt (by omega)), if_pos (inb_nI (by omega) (by decide)), nI_clamp (by omega), hT.mr.2 _ hlt, gB_in hlt, in_L2 hB hlt, Option.bind_some]
    dsimp only
    cases cq : qL (gB w (s + i)) with
    | true =>
      rw [if_neg (show ¬ bI true = 0 by decide), nI_1]
      refine Or.inl ⟨_, rfl, rfl, by omega, ?_⟩
      rw [← h2]
      exact (wh_st hlt cq).symm
    | false =>
      rw [if_pos (show bI false = 0 from rfl)]
      refine Or.inr ⟨_, rfl, (fun q => by cases q), ?_⟩
      rw [← h2, wh_no (fun _ => cq)]) (fun z hz => by
    obtain ⟨rfl, h1, h2⟩ := hz
    refine ⟨_, ?_, (fun q => by cases q), rfl⟩
    unfold Mod_isComing_B12
    dsimp only
    rw [hT.mr.1, if_pos (nI_le (by omega) (by omega)), ← h2, wh_no (fun q => by omega)]) (by omega) ⟨rfl, s2, rfl⟩
  obtain ⟨z, e, rfl⟩ := key
  rw [e, Option.bind_some]
  dsimp only
  rw [if_pos rfl, show wh qL w s = enL w s from rfl]
  have em : zI (mr M s) 63 31 (nI (enL w s)) = mr (zI M 63 31 (nI (enL w s))) s := by
    refine Prod.ext (funext fun b => ?_) rfl
    by_cases cb : b = 63
    · subst cb
      funext k
      by_cases k1 : k = 31
      · rw [k1, zI_in, mr_1 (by decide), zI_in]
      · rw [zI_ne (Or.inr k1)]
        by_cases k3 : k = 18
        · rw [k3, mr_p, mr_p]
        · rw [mr_1 k3, mr_1 k3, zI_ne (Or.inr k1)]
    · rw [zI_other cb, mr_o cb, mr_o cb, zI_other cb]
  have hT1 : MT w (zI M 63 31 (nI (enL w s))) := ⟨(zI_ne (Or.inr (by decide))).trans hT.1, fun i hi => by rw [zI_other (by decide)]; exact hT.2 i hi⟩
  unfold Mod_isComing_J47
  dsimp only [lt]
  rw [em]
  generalize zI M 63 31 (nI (enL w s)) = M1 at *
  have j161 : ∀ y : Bool, (y = true → s + 3 < w.length ∨ d = 0) → Mod_isComing_J161 F (nI d) (bI y) (mr M1 s) = some (bI (y && (decide (d = 0) || decide (gB w (s + 3) = d))), mr M1 s) := fun y hy => by
    unfold Mod_isComing_J161
    cases y with
    | false => rw [if_pos (show bI false = 0 from rfl), n0]; rfl
    | true =>
      rw [if_neg (show ¬ bI true = 0 by decide)]
      by_cases d0 : d = 0
      · rw [if_pos (show nI d = 0 by rw [d0]; rfl), n1, decide_eq_true d0]; rfl
      · have hlt : s + 3 < w.length := by rcases hy rfl with q | q
                                          · exact q
                                          · exact absurd q d0
        have hb := gB_lt hB hlt
        rw [if_neg (show ¬ nI d = 0 from fun q => d0 ((nI_eq (b := 0) (by omega) (by decide)).mp q)), mr_p, show nI s + 3 = nI (s + 3) from nI_add s 3, if_pos (inb_nI (by omega) (by decide)), nI_clamp (by omega), hT1.mr.2 _ hlt, gB_in hlt, decide_eq_false d0]
        by_cases q : gB w (s + 3) = d
        · rw [if_pos (by rw [q]), n1, decide_eq_true q]; rfl
        · rw [if_neg (fun z => q ((nI_eq (by omega) (by omega)).mp z)), n0, decide_eq_false q]; rfl
  have j130 : ∀ y : Bool, (y = true → (s + 2 < w.length ∨ c = 0) ∧ (s + 3 < w.length ∨ d = 0)) → Mod_isComing_J130 F (nI c) (nI d) (bI y) (mr M1 s) = some (bI (y && (decide (c = 0) || decide (gB w (s + 2) = c)) && (decide (d = 0) || decide (gB w (s + 3) = d))), mr M1 s) := fun y hy => by
    unfold Mod_isComing_J130
    cases y with
    | false =>
      rw [if_pos (show bI false = 0 from rfl)]
      exact j161 false (fun q => by cases q)
    | true =>
      rw [if_neg (show ¬ bI true = 0 by decide)]
      have t := j161 true (fun _ => (hy rfl).2)
      have f := j161 false (fun q => by cases q)
      by_cases c0 : c = 0
      · rw [if_pos (show nI c = 0 by rw [c0]; rfl), decide_eq_true c0]
        exact t
      · have hlt : s + 2 < w.length := by rcases (hy rfl).1 with q | q
                                          · exact q
                                          · exact absurd q c0
        have hb := gB_lt hB hlt
        rw [if_neg (show ¬ nI c = 0 from fun q => c0 ((nI_eq (b := 0) (by omega) (by decide)).mp q)), mr_p, show nI s + 2 = nI (s + 2) from nI_add s 2, if_pos (inb_nI (by omega) (by decide)), nI_clamp (by omega), hT1.mr.2 _ hlt, gB_in hlt, decide_eq_false c0]
        by_cases q : gB w (s + 2) = c
        · rw [if_pos (by rw [q]), decide_eq_true q]; exact t
        · rw [if_neg (fun z => q ((nI_eq (by omega) (by omega)).mp z)), decide_eq_false q]; exact f
  have j71 : ∀ z, 2 ≤ z ∧ z ≤ 4 → (z = 2 → c = 0) → (z ≤ 3 → d = 0) → Mod_isComing_J71 F (nI a) (nI b) (nI c) (nI d) (nI (enL w s)) (nI z) (mr M1 s) = some (bI (decide (enL w s - s = z) && (decide (gB w s = a) && decide (gB w (s + 1) = b)) && (decide (c = 0) || decide (gB w (s + 2) = c)) && (decide (d = 0) || decide (gB w (s + 3) = d))), mr M1 s) := fun z z2 zc zd => by
    unfold Mod_isComing_J71
    rw [mr_p, pk_sub e1]
    have f := j130 false (fun q => by cases q)
    by_cases cl : enL w s - s = z
    · rw [if_pos (by rw [cl]), decide_eq_true cl]
      unfold Mod_isComing_J90
      have hl0 : s < w.length := by omega
      have hl1 : s + 1 < w.length := by omega
      have hb0 := gB_lt hB hl0
      have hb1 := gB_lt hB hl1
      have t := j130 true (fun _ => ⟨by omega, by omega⟩)
      rw [if_neg (show ¬ (1 : Int32) = 0 by decide), mr_p, if_pos (inb_nI (by omega) (by decide)), nI_clamp (by omega), hT1.mr.2 _ hl0, gB_in hl0, nI_1, if_pos (inb_nI (by omega) (by decide)), nI_clamp (by omega), hT1.mr.2 _ hl1, gB_in hl1]
      by_cases q0 : gB w s = a
      · rw [if_pos (by rw [q0]), decide_eq_true q0]
        by_cases q1 : gB w (s + 1) = b
        · rw [if_pos (by rw [q1]), decide_eq_true q1]; exact t
        · rw [if_neg (fun y => q1 ((nI_eq (by omega) (by omega)).mp y)), decide_eq_false q1]; exact f
      · rw [if_neg (fun y => q0 ((nI_eq (by omega) (by omega)).mp y)), decide_eq_false q0]; exact f
    · rw [if_neg (fun q => cl ((nI_eq (by omega) (by omega)).mp q)), decide_eq_false cl]
      unfold Mod_isComing_J90
      rw [if_pos rfl]
      exact f
  unfold isW kwA
  by_cases d0 : d = 0
  · rw [if_pos (show nI d ≤ 0 from nI_le (b := 0) (by omega) (by decide)), if_pos d0]
    by_cases c0 : c = 0
    · rw [if_pos (show nI c ≤ 0 from nI_le (b := 0) (by omega) (by decide)), if_pos c0, show (2 : Int32) = nI 2 from rfl, j71 2 (by decide) (fun _ => c0) (fun _ => d0)]
      congr 3
      rw [decide_eq_true c0, decide_eq_true d0, Bool.eq_iff_iff, decide_eq_true_iff, rng_eq e1 e2]
      simp only [Bool.and_eq_true, Bool.true_or, Bool.and_true, decide_eq_true_iff, List.length_cons, List.length_nil]
      constructor
      · rintro ⟨h1, h2, h3⟩
        refine ⟨h1, fun j hj => ?_⟩
        rcases (show j = 0 ∨ j = 1 by omega) with rfl | rfl
        · exact h2
        · exact h3
      · rintro ⟨h1, h2⟩
        exact ⟨h1, h2 0 (by omega), h2 1 (by omega)⟩
    · rw [if_neg (show ¬ nI c ≤ 0 from nI_ge (a := 0) (by omega) (by omega)), if_neg c0, show (3 : Int32) = nI 3 from rfl, j71 3 (by decide) (fun q => by cases q) (fun _ => d0)]
      congr 3
      rw [decide_eq_false c0, decide_eq_true d0, Bool.eq_iff_iff, decide_eq_true_iff, rng_eq e1 e2]
      simp only [Bool.and_eq_true, Bool.true_or, Bool.false_or, Bool.and_true, decide_eq_true_iff, List.length_cons, List.length_nil]
      constructor
      · rintro ⟨⟨h1, h2, h3⟩, h4⟩
        refine ⟨h1, fun j hj => ?_⟩
        rcases (show j = 0 ∨ j = 1 ∨ j = 2 by omega) with rfl | rfl | rfl
        · exact h2
        · exact h3
        · exact h4
      · rintro ⟨h1, h2⟩
        exact ⟨⟨h1, h2 0 (by omega), h2 1 (by omega)⟩, h2 2 (by omega)⟩
  · have c0 : ¬ c = 0 := fun q => d0 (hd q)
    rw [if_neg (show ¬ nI d ≤ 0 from nI_ge (a := 0) (by omega) (by omega)), if_neg d0, show (4 : Int32) = nI 4 from rfl, j71 4 (by decide) (fun q => by cases q) (fun q => by omega)]
    congr 3
    rw [decide_eq_false c0, decide_eq_false d0, Bool.eq_iff_iff, decide_eq_true_iff, rng_eq e1 e2]
    simp only [Bool.and_eq_true, Bool.false_or, decide_eq_true_iff, List.length_cons, List.length_nil]
    constructor
    · rintro ⟨⟨⟨h1, h2, h3⟩, h4⟩, h5⟩
      refine ⟨h1, fun j hj => ?_⟩
      rcases (show j = 0 ∨ j = 1 ∨ j = 2 ∨ j = 3 by omega) with rfl | rfl | rfl | rfl
      · exact h2
      · exact h3
      · exact h4
      · exact h5
    · rintro ⟨h1, h2⟩
      exact ⟨⟨⟨h1, h2 0 (by omega), h2 1 (by omega)⟩, h2 2 (by omega)⟩, h2 3 (by omega)⟩

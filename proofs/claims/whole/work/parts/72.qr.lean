/-! the reference reads: numbers, words -/
def mr (M : zM) (p : Nat) : zM := zI M 63 18 (nI p)
theorem mr_p {M : zM} {p : Nat} : (mr M p).1 63 18 = nI p := zI_in
theorem mr_1 {M : zM} {p k : Nat} (h : k ≠ 18) : (mr M p).1 63 k = M.1 63 k := zI_ne (Or.inr h)
theorem mr_o {M : zM} {p b : Nat} (h : b ≠ 63) : (mr M p).1 b = M.1 b := zI_other h
theorem mr_m {M : zM} {p q : Nat} : zI (mr M p) 63 18 (nI q) = mr M q := zI_zI
theorem mr_self {M : zM} {p : Nat} (h : M.1 63 18 = nI p) : mr M p = M := zI_self h
def MT (w : List Nat) (M : zM) : Prop := M.1 63 16 = nI w.length ∧ ∀ i, i < w.length → M.1 79 i = nI (w.getD i 0)
theorem MT.mr {w : List Nat} {M : zM} {p : Nat} (h : MT w M) : MT w (mr M p) := ⟨(mr_1 (by decide)).trans h.1, fun i hi => by rw [mr_o (by decide)]; exact h.2 i hi⟩
/-- only the reading fields of the reference have changed -/
def fM (M0 M : zM) : Prop := (∀ b, b ≠ 63 → (b < 80 ∨ 88 < b) → M.1 b = M0.1 b) ∧ M.2 = M0.2 ∧ ∀ k, k ≠ 17 → k ≠ 18 → k ≠ 19 → k ≠ 29 → k ≠ 30 → k ≠ 31 → M.1 63 k = M0.1 63 k
theorem fM.mr {M0 M : zM} {p : Nat} (h : fM M0 M) : fM M0 (mr M p) := ⟨fun b b1 b2 => (mr_o b1).trans (h.1 b b1 b2), h.2.1, fun k k1 k2 k3 k4 k5 k6 => (mr_1 k2).trans (h.2.2 k k1 k2 k3 k4 k5 k6)⟩
/-- number, its place, the word's end -/
def gM (M0 M : zM) : Prop := (∀ b, b ≠ 63 → M.1 b = M0.1 b) ∧ M.2 = M0.2 ∧ ∀ k, k ≠ 18 → k ≠ 29 → k ≠ 30 → k ≠ 31 → M.1 63 k = M0.1 63 k
theorem here_ok {F p : Nat} {w : List Nat} {M : zM} (hB : okB w) (hT : MT w M) (hp : p ≤ w.length) (hF : 3000 < F) : Mod_here F (mr M p) = some (cI w (skB w p), mr M (skB w p)) := by
  have h240 := hB.1
  have key := loopN_inv (body := Mod_here_B0 F) (I := fun i s => s = mr M (p + i) ∧ p + i ≤ w.length ∧ skB w (p + i) = skB w p) (Qx := fun q => q = (1, mr M (skB w p))) (N := w.length - p) (F := F) (s := mr M p) (fun i s hi hs => by
    obtain ⟨rfl, h1, h2⟩ := hs
    have hlt : p + i < w.length := by omega
    have hb := gB_lt hB hlt
    unfold Mod_here_B0
    dsimp only [lt]
    rw [mr_1 (by decide), mr_p, hT.1, if_neg (nI_ge hlt (by omega)), if_pos (inb_nI (by omega) (by decide)), nI_clamp (by omega), mr_o (by decide), hT.2 _ hlt, gB_in hlt]
    by_cases c : gB w (p + i) = 32
    · rw [if_pos (show nI (gB w (p + i)) = 32 by rw [c]; rfl), nI_1]
      refine Or.inl ⟨_, rfl, mr_m, by omega, ?_⟩
      rw [← h2]
      exact (wh_st hlt (decide_eq_true c)).symm
    · rw [if_neg (show ¬ nI (gB w (p + i)) = 32 from fun q => c ((nI_eq (b := 32) (by omega) (by decide)).mp q))]
      refine Or.inr ⟨_, rfl, (fun q => by cases q), ?_⟩
      rw [← h2]
      show _ = (1, mr M (wh qB w (p + i)))
      rw [wh_no (fun _ => decide_eq_false c)]) (fun s hs => by
    obtain ⟨rfl, h1, h2⟩ := hs
    refine ⟨_, ?_, (fun q => by cases q), rfl⟩
    unfold Mod_here_B0
    rw [mr_1 (by decide), mr_p, hT.1, if_pos (nI_le (by omega) (by omega)), ← h2]
    show _ = some (1, mr M (wh qB w (p + (w.length - p))))
    rw [wh_no (fun q => by omega)]) (by omega) ⟨rfl, hp, rfl⟩
  obtain ⟨q, e, rfl⟩ := key
  have s2 : skB w p ≤ w.length := (wh_sp qB hp).2.1
  unfold Mod_here
  rw [e, Option.bind_some]
  dsimp only
  rw [if_pos rfl]
  unfold Mod_here_J38 cI
  rw [mr_1 (by decide), mr_p, hT.1]
  by_cases c : skB w p < w.length
  · rw [if_neg (nI_ge c (by omega)), if_pos (inb_nI (by omega) (by decide)), nI_clamp (by omega), mr_o (by decide), hT.2 _ c, if_pos c, gB_in c]
  · rw [if_pos (nI_le (by omega) (by omega)), if_neg c]
theorem in_n {a lo hi : Nat} (h1 : a < 2 ^ 31) (h2 : lo < 2 ^ 31) (h3 : hi < 2 ^ 31) : decide ((nI lo).toInt64 ≤ (nI a).toInt64 ∧ (nI a).toInt64 ≤ (nI hi).toInt64) = decide (lo ≤ a ∧ a ≤ hi) := by
  have e : ∀ x : Int32, x.toInt64.toInt = x.toInt := fun x => by simp
  rw [decide_eq_decide, Int64.le_iff_toInt_le, Int64.le_iff_toInt_le, e, e, e, nI_toInt h1, nI_toInt h2, nI_toInt h3]
  omega
theorem in_D {F : Nat} {w : List Nat} (hB : okB w) {p : Nat} {M : zM} : Mod_in F (cI w p).toInt64 48 57 M = some (bI (qD (gB w p)), M) := by
  rw [Mod_in_ok]
  unfold cI
  by_cases c : p < w.length
  · rw [if_pos c]
    have := in_n (a := gB w p) (lo := 48) (hi := 57) (by have := gB_lt hB c; omega) (by decide) (by decide)
    exact congrArg (fun z => some (bI z, M)) this
  · rw [if_neg c, gB_out (by omega)]
    rfl
theorem in_L {F : Nat} {w : List Nat} (hB : okB w) {p : Nat} {M : zM} : Mod_in F (cI w p).toInt64 97 122 M = some (bI (qL (gB w p)), M) := by
  rw [Mod_in_ok]
  unfold cI
  by_cases c : p < w.length
  · rw [if_pos c]
    have := in_n (a := gB w p) (lo := 97) (hi := 122) (by have := gB_lt hB c; omega) (by decide) (by decide)
    exact congrArg (fun z => some (bI z, M)) this
  · rw [if_neg c, gB_out (by omega)]
    rfl
theorem in_D2 {F : Nat} {w : List Nat} (hB : okB w) {p : Nat} (hp : p < w.length) {M : zM} : Mod_in F (nI (gB w p)).toInt64 48 57 M = some (bI (qD (gB w p)), M) := by
  have := in_D (F := F) (M := M) hB (p := p)
  unfold cI at this
  rw [if_pos hp] at this
  exact this
theorem in_L2 {F : Nat} {w : List Nat} (hB : okB w) {p : Nat} (hp : p < w.length) {M : zM} : Mod_in F (nI (gB w p)).toInt64 97 122 M = some (bI (qL (gB w p)), M) := by
  have := in_L (F := F) (M := M) hB (p := p)
  unfold cI at this
  rw [if_pos hp] at this
  exact this
def FMr (M0 : zM) (f : Flt) (M : zM) : Prop := (0 < f.1 ∧ f.1 < 7) ∧ M.1 63 17 = nI f.2 ∧ fM M0 M ∧ Z87 M
theorem fails_ok {F f pl : Nat} {M0 M : zM} (h : fM M0 M) (hz : Z87 M) (hf : 0 < f ∧ f < 7) : ∃ M1, Mod_fails F (nI f) (nI pl) M = some (nI f, M1) ∧ FMr M0 (f, pl) M1 :=
  ⟨zI M 63 17 (nI pl), rfl, hf, zI_in, ⟨fun b b1 b2 => (zI_other b1).trans (h.1 b b1 b2), h.2.1, fun k k1 k2 k3 k4 k5 k6 => (zI_ne (Or.inr k1)).trans (h.2.2 k k1 k2 k3 k4 k5 k6)⟩, hz.same (zI_other (by decide))⟩
theorem fM.z {M0 M : zM} {k : Nat} {v : Int32} (h : fM M0 M) (hk : k = 17 ∨ k = 18 ∨ k = 19 ∨ k = 29 ∨ k = 30 ∨ k = 31) : fM M0 (zI M 63 k v) :=
  ⟨fun b b1 b2 => (zI_other b1).trans (h.1 b b1 b2), h.2.1, fun j k1 k2 k3 k4 k5 k6 => (zI_ne (Or.inr (by omega))).trans (h.2.2 j k1 k2 k3 k4 k5 k6)⟩
theorem tnum_ok {F lo hi p : Nat} {w : List Nat} {M0 M : zM} (hB : okB w) (hT : MT w M) (h : fM M0 M) (hz : Z87 M) (hp : p ≤ w.length) (hlo : lo < 1000) (hhi : hi < 1000) (hF : 3000 < F) : match numS w lo hi p with
    | .inl f => ∃ M1, Mod_takeNumber F (nI lo) (nI hi) (mr M p) = some (nI f.1, M1) ∧ FMr M0 f M1
    | .inr z => ∃ M1, Mod_takeNumber F (nI lo) (nI hi) (mr M p) = some (0, mr M1 z.1) ∧ gM M M1 ∧ M1.1 63 29 = nI z.2 ∧ M1.1 63 30 = nI (skB w p) := by
  have h240 := hB.1
  have a1 := wh_sp qB hp
  have s1 : p ≤ skB w p := a1.1
  have s2 : skB w p ≤ w.length := a1.2.1
  have a2 := wh_sp qD s2
  have e1 : skB w p ≤ enD w (skB w p) := a2.1
  have e2 : enD w (skB w p) ≤ w.length := a2.2.1
  have e3 : ∀ i, skB w p ≤ i → i < enD w (skB w p) → qD (gB w i) = true := a2.2.2.1
  have e4 : enD w (skB w p) < w.length → qD (gB w (enD w (skB w p))) = false := a2.2.2.2
  have ce : enD w (skB w p) = skB w p ↔ qD (gB w (skB w p)) = false := by
    constructor
    · intro q
      by_cases c : skB w p < w.length
      · have := e4 (by omega); rw [q] at this; exact this
      · rw [gB_out (by omega)]; rfl
    · intro q
      exact wh_no (fun _ => q)
  unfold Mod_takeNumber
  rw [here_ok hB hT hp hF, Option.bind_some]
  dsimp only
  rw [in_D hB, Option.bind_some]
  dsimp only [lt]
  rw [mr_p]
  unfold numS
  by_cases c1 : enD w (skB w p) = skB w p
  · rw [if_pos c1, ce.mp c1, if_pos (show bI false = 0 from rfl)]
    obtain ⟨M1, k1, k2⟩ := fails_ok (F := F) (f := 1) (pl := skB w p) (h.mr (p := skB w p)) (hz.same (mr_o (by decide))) (by decide)
    have k1 : Mod_fails F 1 (nI (skB w p)) (mr M (skB w p)) = some (1, M1) := k1
    rw [k1, Option.bind_some]
    exact ⟨M1, rfl, k2⟩
  · have cq : qD (gB w (skB w p)) = true := by
      cases z : qD (gB w (skB w p)) with
      | true => rfl
      | false => exact absurd (ce.mpr z) c1
    rw [if_neg c1, cq, if_neg (show ¬ bI true = 0 by decide)]
    clear ce cq
    generalize skB w p = s at *
    generalize enD w s = e at *
    have b30 : (zI (zI (mr M s) 63 30 (nI s)) 63 29 0) = mr (zI (zI M 63 30 (nI s)) 63 29 0) s := by
      refine Prod.ext (funext fun b => ?_) rfl
      by_cases cb : b = 63
      · subst cb
        funext k
        by_cases k1 : k = 29
        · rw [k1, zI_in, mr_1 (by decide), zI_in]
        · rw [zI_ne (Or.inr k1)]
          by_cases k2 : k = 30
          · rw [k2, zI_in, mr_1 (by decide), zI_ne (Or.inr (by decide)), zI_in]
          · rw [zI_ne (Or.inr k2)]
            by_cases k3 : k = 18
            · rw [k3, mr_p, mr_p]
            · rw [mr_1 k3, mr_1 k3, zI_ne (Or.inr k1), zI_ne (Or.inr k2)]
      · rw [zI_other cb, zI_other cb, mr_o cb, mr_o cb, zI_other cb, zI_other cb]
    rw [b30]
    have key := loopN_inv (body := Mod_takeNumber_B42 F (nI lo) (nI hi)) (I := fun i z => ∃ v M1, z = mr M1 (s + i) ∧ s + i ≤ e ∧ gM M M1 ∧ M1.1 63 29 = nI v ∧ M1.1 63 30 = nI s ∧ v < 1000000 ∧ (i ≤ 3 → v = dgV w s i)) (Qx := fun q => ∃ v M1, q = (1, mr M1 e) ∧ gM M M1 ∧ M1.1 63 29 = nI v ∧ M1.1 63 30 = nI s ∧ v < 1000000 ∧ (e - s ≤ 3 → v = dgV w s (e - s))) (N := e - s) (F := F) (s := mr (zI (zI M 63 30 (nI s)) 63 29 0) s) (fun i z hi' hz' => by
      obtain ⟨v, M1, rfl, i1, i2, i3, i4, i5, i6⟩ := hz'
      have hlt : s + i < w.length := by omega
      have hd := e3 (s + i) (by omega) (by omega)
      have hd2 := of_decide_eq_true hd
      have T1 : MT w M1 := ⟨(i2.2.2 16 (by decide) (by decide) (by decide) (by decide)).trans hT.1, fun j hj => by rw [i2.1 79 (by decide)]; exact hT.2 j hj⟩
      refine Or.inl ?_
      unfold Mod_takeNumber_B42
      dsimp only [lt]
      rw [T1.mr.1, mr_p, if_neg (nI_ge hlt (by omega)), if_pos (inb_nI (by omega) (by decide)), nI_clamp (by omega), T1.mr.2 _ hlt, gB_in hlt, in_D2 hB hlt, hd, Option.bind_some]
      dsimp only
      rw [if_neg (show ¬ bI true = 0 by decide), mr_1 (by decide), i3, mr_p, if_pos (inb_nI (by omega) (by decide)), nI_clamp (by omega), T1.mr.2 _ hlt, gB_in hlt]
      have j113 : ∀ y : Nat, Mod_takeNumber_J113 F (nI lo) (nI hi) (nI y) (mr M1 (s + i)) = some (0, mr (zI M1 63 29 (nI y)) (s + (i + 1))) := fun y => by
        unfold Mod_takeNumber_J113
        dsimp only [lt]
        rw [zI_ne (Or.inr (by decide)), mr_p, nI_1]
        refine congrArg (fun z => some (0, z)) ?_
        refine Prod.ext (funext fun b => ?_) rfl
        by_cases cb : b = 63
        · subst cb
          funext k
          by_cases k1 : k = 18
          · rw [k1, zI_in, mr_p]; rfl
          · rw [zI_ne (Or.inr k1), mr_1 k1]
            by_cases k2 : k = 29
            · rw [k2, zI_in, zI_in]
            · rw [zI_ne (Or.inr k2), zI_ne (Or.inr k2), mr_1 k1]
        · rw [zI_other cb, zI_other cb, mr_o cb, mr_o cb, zI_other cb]
      have nx : ∀ y, y < 1000000 → (i + 1 ≤ 3 → y = dgV w s (i + 1)) → ∃ s', some (0, mr (zI M1 63 29 (nI y)) (s + (i + 1))) = some (0, s') ∧ ∃ v M1, s' = mr M1 (s + (i + 1)) ∧ s + (i + 1) ≤ e ∧ gM M M1 ∧ M1.1 63 29 = nI v ∧ M1.1 63 30 = nI s ∧ v < 1000000 ∧ (i + 1 ≤ 3 → v = dgV w s (i + 1)) := fun y hy hy2 => ⟨_, rfl, y, _, rfl, by omega, ⟨fun b hb => (zI_other hb).trans (i2.1 b hb), i2.2.1, fun k k1 k2 k3 k4 => (zI_ne (Or.inr k2)).trans (i2.2.2 k k1 k2 k3 k4)⟩, zI_in, (zI_ne (Or.inr (by decide))).trans i4, hy, hy2⟩
      by_cases cv : v ≤ 10000
      · rw [if_pos (show nI v ≤ 10000 from nI_le (b := 10000) cv (by decide)), show (10 : Int32) * nI v = nI (10 * v) from by rw [show (10 : Int32) = nI 10 from rfl, pk_mul], nI_add, show nI (10 * v + gB w (s + i)) - 48 = nI (10 * v + gB w (s + i) - 48) from pk_sub (b := 48) (by omega), j113]
        refine nx _ (by omega) (fun q => ?_)
        rw [dgV_s, ← i6 (by omega)]
        omega
      · rw [if_neg (show ¬ nI v ≤ 10000 from nI_ge (a := 10000) (by omega) (by omega)), j113]
        refine nx _ i5 (fun q => ?_)
        have := dgV_lt (w := w) (s := s) i (fun j a b => e3 j a (by omega))
        rw [← i6 (by omega)] at this
        have := Nat.lt_of_lt_of_le this (Nat.pow_le_pow_right (n := 10) (by decide) (show i ≤ 3 by omega))
        omega) (fun z hz' => by
      obtain ⟨v, M1, rfl, i1, i2, i3, i4, i5, i6⟩ := hz'
      rw [show s + (e - s) = e by omega]
      refine ⟨(1, mr M1 e), ?_, (fun q => by cases q), v, M1, rfl, i2, i3, i4, i5, i6⟩
      have T1 : MT w M1 := ⟨(i2.2.2 16 (by decide) (by decide) (by decide) (by decide)).trans hT.1, fun j hj => by rw [i2.1 79 (by decide)]; exact hT.2 j hj⟩
      unfold Mod_takeNumber_B42
      rw [T1.mr.1, mr_p]
      by_cases c : e < w.length
      · rw [if_neg (nI_ge c (by omega)), if_pos (inb_nI (by omega) (by decide)), nI_clamp (by omega), T1.mr.2 _ c, gB_in c, in_D2 hB c, e4 c, Option.bind_some]
        rfl
      · rw [if_pos (nI_le (by omega) (by omega))]) (by omega) ⟨0, _, rfl, by omega, ⟨fun b hb => (zI_other hb).trans (zI_other hb), rfl, fun k k1 k2 k3 k4 => (zI_ne (Or.inr k2)).trans (zI_ne (Or.inr k3))⟩, zI_in, (zI_ne (Or.inr (by decide))).trans zI_in, by decide, fun _ => rfl⟩
    obtain ⟨q, k0, v, M1, rfl, i2, i3, i4, i5, i6⟩ := key
    rw [k0, Option.bind_some]
    dsimp only
    rw [if_pos rfl]
    have f1 : fM M0 M1 := ⟨fun b b1 b2 => (i2.1 b b1).trans (h.1 b b1 b2), i2.2.1.trans h.2.1, fun k k1 k2 k3 k4 k5 k6 => (i2.2.2 k k2 k4 k5 k6).trans (h.2.2 k k1 k2 k3 k4 k5 k6)⟩
    obtain ⟨M2, q1, q2⟩ := fails_ok (F := F) (f := 2) (pl := s) (f1.mr (p := e)) (hz.same ((mr_o (by decide)).trans (i2.1 87 (by decide)))) (by decide)
    have j157 : Mod_takeNumber_J157 F (mr M1 e) = some (2, M2) := by
      unfold Mod_takeNumber_J157
      rw [mr_1 (by decide), i4]
      have q1 : Mod_fails F 2 (nI s) (mr M1 e) = some (2, M2) := q1
      rw [q1, Option.bind_some]
    unfold Mod_takeNumber_J129
    rw [mr_p, mr_1 (by decide), i4, pk_sub (by omega)]
    by_cases c2 : 3 < e - s
    · rw [if_pos (Or.inl c2), if_pos (show (3 : Int32) < nI (e - s) from nI_lt (a := 3) c2 (by omega)), j157]
      exact ⟨M2, rfl, q2⟩
    · rw [if_neg (show ¬ (3 : Int32) < nI (e - s) from nI_nlt (a := 3) (by omega) (by omega)), mr_1 (by decide), i3, Mod_in_ok, in_n (by omega) (by omega) (by omega), Option.bind_some]
      dsimp only
      rw [← i6 (by omega)]
      by_cases c3 : lo ≤ v ∧ v ≤ hi
      · rw [if_neg (fun q => by omega), decide_eq_true c3, if_neg (show ¬ bI true = 0 by decide)]
        exact ⟨M1, rfl, i2, i3, i4⟩
      · rw [if_pos (by omega), decide_eq_false c3, if_pos (show bI false = 0 from rfl), j157]
        exact ⟨M2, rfl, q2⟩

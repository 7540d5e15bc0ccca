/-! the reference reads: parts -/
def kM (k : Nat) : Nat := if k = 113 then 1 else if k = 116 then 2 else if k = 114 then 3 else if k = 99 then 4 else if k = 110 then 5 else 0
def PM1 (k : Nat) (q : Prt) (M : zM) : Prop := M.1 85 k = nI (kM q.1) ∧ (q.1 = 0 → q.2.2.length ≤ 12 ∧ M.1 87 k = nI q.2.2.length ∧ ∀ i, i < q.2.2.length → M.1 88 (12 * k + i) = nI (q.2.2.getD i 0))
/-- the parts of the clause that is under way -/
def CU (n : Nat) (ps : List Prt) (M : zM) : Prop := M.1 84 n = nI ps.length ∧ ∀ j, j < ps.length → PM1 (8 * n + j) (pg ps j) M ∧ M.1 86 (8 * n + j) = bI (pg ps j).2.1
/-- nothing but the parts from 8 n on, the count of them, and the reading fields have changed -/
def hM (n : Nat) (M0 M : zM) : Prop := (∀ b, b ≠ 63 → (b < 84 ∨ 88 < b) → M.1 b = M0.1 b) ∧ M.2 = M0.2 ∧ (∀ k, k ≠ 18 → k ≠ 29 → k ≠ 30 → k ≠ 31 → M.1 63 k = M0.1 63 k) ∧ (∀ k, k ≠ n → M.1 84 k = M0.1 84 k) ∧ (∀ k, k < 8 * n → M.1 85 k = M0.1 85 k ∧ M.1 86 k = M0.1 86 k ∧ M.1 87 k = M0.1 87 k) ∧ ∀ k, k < 96 * n → M.1 88 k = M0.1 88 k
theorem hM.rf {n : Nat} {M : zM} : hM n M M := ⟨fun _ _ _ => rfl, rfl, fun _ _ _ _ _ => rfl, fun _ _ => rfl, fun _ _ => ⟨rfl, rfl, rfl⟩, fun _ _ => rfl⟩
theorem hM.tr {n : Nat} {M M1 M2 : zM} (h : hM n M M1) (h2 : hM n M1 M2) : hM n M M2 := ⟨fun b b1 b2 => (h2.1 b b1 b2).trans (h.1 b b1 b2), h2.2.1.trans h.2.1, fun k k1 k2 k3 k4 => (h2.2.2.1 k k1 k2 k3 k4).trans (h.2.2.1 k k1 k2 k3 k4), fun k hk => (h2.2.2.2.1 k hk).trans (h.2.2.2.1 k hk), fun k hk => ⟨(h2.2.2.2.2.1 k hk).1.trans (h.2.2.2.2.1 k hk).1, (h2.2.2.2.2.1 k hk).2.1.trans (h.2.2.2.2.1 k hk).2.1, (h2.2.2.2.2.1 k hk).2.2.trans (h.2.2.2.2.1 k hk).2.2⟩, fun k hk => (h2.2.2.2.2.2 k hk).trans (h.2.2.2.2.2 k hk)⟩
theorem gM.h {n : Nat} {M M1 : zM} (h : gM M M1) : hM n M M1 := ⟨fun b b1 _ => h.1 b b1, h.2.1, h.2.2, fun k _ => by rw [h.1 84 (by decide)], fun k _ => ⟨by rw [h.1 85 (by decide)], by rw [h.1 86 (by decide)], by rw [h.1 87 (by decide)]⟩, fun k _ => by rw [h.1 88 (by decide)]⟩
theorem hM.f {n : Nat} {M0 M M1 : zM} (h : hM n M M1) (f : fM M0 M) : fM M0 M1 := ⟨fun b b1 b2 => (h.1 b b1 (by omega)).trans (f.1 b b1 b2), h.2.1.trans f.2.1, fun k k1 k2 k3 k4 k5 k6 => (h.2.2.1 k k2 k4 k5 k6).trans (f.2.2 k k1 k2 k3 k4 k5 k6)⟩
theorem hM.t {n : Nat} {w : List Nat} {M M1 : zM} (h : hM n M M1) (t : MT w M) : MT w M1 := ⟨(h.2.2.1 16 (by decide) (by decide) (by decide) (by decide)).trans t.1, fun i hi => by rw [h.1 79 (by decide) (by decide)]; exact t.2 i hi⟩
theorem mr_h {n : Nat} {M : zM} {p : Nat} : hM n M (mr M p) := ⟨fun b b1 _ => mr_o b1, rfl, fun k k1 _ _ _ => mr_1 k1, fun k _ => congrFun (mr_o (by decide)) k, fun k _ => ⟨congrFun (mr_o (by decide)) k, congrFun (mr_o (by decide)) k, congrFun (mr_o (by decide)) k⟩, fun k _ => congrFun (mr_o (by decide)) k⟩
theorem tlet_ok {F n m p : Nat} {w : List Nat} {M0 M : zM} (hB : okB w) (hT : MT w M) (h : fM M0 M) (hz : Z87 M) (hp : p ≤ w.length) (hs : skB w p = p) (hn : n < 12) (hm : m < 8) (hF : 3000 < F) : match letS w p with
    | .inl f => ∃ M1, Mod_takeLetters F (nI (8 * n + m)) (mr M p) = some (nI f.1, M1) ∧ FMr M0 f M1
    | .inr z => ∃ M1, Mod_takeLetters F (nI (8 * n + m)) (mr M p) = some (0, mr M1 z.1) ∧ hM n M M1 ∧ Z87 M1 ∧ M1.1 84 = M.1 84 ∧ M1.1 86 = M.1 86 ∧ (∀ k, k ≠ 8 * n + m → M1.1 85 k = M.1 85 k ∧ M1.1 87 k = M.1 87 k) ∧ (∀ k, k < 12 * (8 * n + m) → M1.1 88 k = M.1 88 k) ∧ PM1 (8 * n + m) (0, false, z.2) M1 := by
  have h240 := hB.1
  have a2 := wh_sp qL hp
  have e1 : p ≤ enL w p := a2.1
  have e2 : enL w p ≤ w.length := a2.2.1
  have e3 : ∀ i, p ≤ i → i < enL w p → qL (gB w i) = true := a2.2.2.1
  have e4 : enL w p < w.length → qL (gB w (enL w p)) = false := a2.2.2.2
  have ce : enL w p = p ↔ qL (gB w p) = false := by
    constructor
    · intro q
      by_cases c : p < w.length
      · have := e4 (by omega); rw [q] at this; exact this
      · rw [gB_out (by omega)]; rfl
    · intro q
      exact wh_no (fun _ => q)
  unfold Mod_takeLetters
  rw [here_ok hB hT hp hF, hs, Option.bind_some]
  dsimp only
  rw [in_L hB, Option.bind_some]
  dsimp only [lt]
  unfold letS
  by_cases c1 : enL w p = p
  · rw [if_pos c1, ce.mp c1, if_pos (show bI false = 0 from rfl), mr_p]
    obtain ⟨M1, k1, k2⟩ := fails_ok (F := F) (f := 1) (pl := p) (h.mr (p := p)) (hz.same (mr_o (by decide))) (by decide)
    have k1 : Mod_fails F 1 (nI p) (mr M p) = some (1, M1) := k1
    rw [k1, Option.bind_some]
    exact ⟨M1, rfl, k2⟩
  · have cq : qL (gB w p) = true := by
      cases z : qL (gB w p) with
      | true => rfl
      | false => exact absurd (ce.mpr z) c1
    rw [if_neg c1, cq, if_neg (show ¬ bI true = 0 by decide), if_pos (inb_nI (by omega) (by decide)), nI_clamp (by omega)]
    have key := loopN_inv (body := Mod_takeLetters_B43 F (nI (8 * n + m))) (I := fun i z => ∃ M1, z = mr M1 (p + i) ∧ p + i ≤ enL w p ∧ i ≤ 12 ∧ hM n M M1 ∧ M1.1 84 = M.1 84 ∧ M1.1 86 = M.1 86 ∧ (∀ k, k ≠ 8 * n + m → M1.1 85 k = M.1 85 k ∧ M1.1 87 k = M.1 87 k) ∧ (∀ k, k < 12 * (8 * n + m) → M1.1 88 k = M.1 88 k) ∧ M1.1 85 (8 * n + m) = 0 ∧ M1.1 87 (8 * n + m) = nI i ∧ ∀ j, j < i → M1.1 88 (12 * (8 * n + m) + j) = nI (gB w (p + j))) (Qx := fun q => ∃ M1 i, (q = (1, mr M1 (p + 12)) ∧ i = 12 ∧ 12 < enL w p - p ∨ q = (2, mr M1 (enL w p)) ∧ i = enL w p - p ∧ i ≤ 12) ∧ hM n M M1 ∧ M1.1 84 = M.1 84 ∧ M1.1 86 = M.1 86 ∧ (∀ k, k ≠ 8 * n + m → M1.1 85 k = M.1 85 k ∧ M1.1 87 k = M.1 87 k) ∧ (∀ k, k < 12 * (8 * n + m) → M1.1 88 k = M.1 88 k) ∧ M1.1 85 (8 * n + m) = 0 ∧ M1.1 87 (8 * n + m) = nI i ∧ ∀ j, j < i → M1.1 88 (12 * (8 * n + m) + j) = nI (gB w (p + j))) (N := 12) (F := F) (s := zI (zI (mr M p) 85 (8 * n + m) 0) 87 (8 * n + m) 0) (fun i z hi' hz' => by
      obtain ⟨M1, rfl, i1, i2, i3, i4, i5, i6, i7, i8, i9, i10⟩ := hz'
      have T1 := i3.t hT
      unfold Mod_takeLetters_B43
      dsimp only [lt]
      rw [T1.mr.1, mr_p]
      by_cases cl : p + i < enL w p
      · have hlt : p + i < w.length := by omega
        have hd := e3 (p + i) (by omega) cl
        have ix : (12 : Int32) * nI (8 * n + m) + nI i = nI (12 * (8 * n + m) + i) := by rw [show (12 : Int32) = nI 12 from rfl, pk_mul, nI_add]
        rw [if_neg (nI_ge hlt (by omega)), if_pos (inb_nI (by omega) (by decide)), nI_clamp (by omega), T1.mr.2 _ hlt, gB_in hlt, in_L2 hB hlt, hd, Option.bind_some]
        dsimp only
        rw [if_neg (show ¬ bI true = 0 by decide), if_pos (inb_nI (by omega) (by decide)), nI_clamp (by omega), congrFun (mr_o (M := M1) (p := p + i) (show (87 : Nat) ≠ 63 by decide)) (8 * n + m), i9, if_neg (show ¬ nI i = 12 from fun q => by have := (nI_eq (b := 12) (by omega) (by decide)).mp q; omega), mr_p, if_pos (inb_nI (by omega) (by decide)), ix, if_pos (inb_nI (by omega) (by decide)), nI_clamp (by omega), nI_clamp (by omega), T1.mr.2 _ hlt, gB_in hlt]
        refine Or.inl ⟨_, rfl, zI (zI M1 88 (12 * (8 * n + m) + i) (nI (gB w (p + i)))) 87 (8 * n + m) (nI (i + 1)), ?_, by omega, by omega, ⟨fun b b1 b2 => ?_, i3.2.1, fun k k1 k2 k3 k4 => i3.2.2.1 k k1 k2 k3 k4, fun k hk => i3.2.2.2.1 k hk, fun k hk => ⟨(i3.2.2.2.2.1 k hk).1, (i3.2.2.2.2.1 k hk).2.1, ?_⟩, fun k hk => ?_⟩, i4, i5, fun k hk => ⟨(i6 k hk).1, ?_⟩, fun k hk => ?_, i8, zI_in, fun j hj => ?_⟩
        · rw [zI_other (show (63 : Nat) ≠ 87 by decide), zI_other (show (63 : Nat) ≠ 88 by decide), mr_p, nI_1]
          rw [congrFun (zI_other (show (87 : Nat) ≠ 88 by decide)) (8 * n + m), congrFun (mr_o (M := M1) (p := p + i) (show (87 : Nat) ≠ 63 by decide)) (8 * n + m), i9, nI_1]
          refine Prod.ext (funext fun b => ?_) rfl
          by_cases cb : b = 63
          · subst cb
            funext k
            by_cases k1 : k = 18
            · rw [k1, zI_in, mr_p]; rfl
            · rw [zI_ne (Or.inr k1), mr_1 k1, zI_other (show (63 : Nat) ≠ 87 by decide), zI_other (show (63 : Nat) ≠ 88 by decide), zI_other (show (63 : Nat) ≠ 87 by decide), zI_other (show (63 : Nat) ≠ 88 by decide), mr_1 k1]
          · rw [zI_other cb, mr_o cb]
            by_cases c87 : b = 87
            · subst c87
              rw [zI_same, zI_same, zI_other (by decide), zI_other (by decide), mr_o (by decide)]
            · rw [zI_other c87, zI_other c87]
              by_cases c88 : b = 88
              · subst c88
                rw [zI_same, zI_same, mr_o (by decide)]
              · rw [zI_other c88, zI_other c88, mr_o cb]
        · rw [zI_other (by omega), zI_other (by omega)]; exact i3.1 b b1 b2
        · rw [zI_ne (Or.inr (by omega)), zI_other (by decide)]; exact (i3.2.2.2.2.1 k hk).2.2
        · rw [zI_other (by decide), zI_ne (Or.inr (by omega))]; exact i3.2.2.2.2.2 k hk
        · rw [zI_ne (Or.inr hk), zI_other (by decide)]; exact (i6 k hk).2
        · rw [zI_other (by decide), zI_ne (Or.inr (by omega))]; exact i7 k hk
        · rw [zI_other (by decide)]
          by_cases cj : j = i
          · rw [cj, zI_in]
          · rw [zI_ne (Or.inr (by omega))]; exact i10 j (by omega)
      · have ei : p + i = enL w p := by omega
        refine Or.inr ⟨(2, mr M1 (p + i)), ?_, (fun q => by cases q), M1, i, Or.inr ⟨by rw [ei], by omega, by omega⟩, i3, i4, i5, i6, i7, i8, i9, i10⟩
        by_cases c : p + i < w.length
        · rw [if_neg (nI_ge c (by omega)), if_pos (inb_nI (by omega) (by decide)), nI_clamp (by omega), T1.mr.2 _ c, gB_in c, in_L2 hB c]
          rw [← ei] at e4
          rw [e4 c, Option.bind_some]
          rfl
        · rw [if_pos (nI_le (by omega) (by omega))]) (fun z hz' => by
      obtain ⟨M1, rfl, i1, i2, i3, i4, i5, i6, i7, i8, i9, i10⟩ := hz'
      have T1 := i3.t hT
      unfold Mod_takeLetters_B43
      dsimp only [lt]
      rw [T1.mr.1, mr_p]
      by_cases cl : p + 12 < enL w p
      · have hlt : p + 12 < w.length := by omega
        have hd := e3 (p + 12) (by omega) cl
        refine ⟨(1, mr M1 (p + 12)), ?_, (fun q => by cases q), M1, 12, Or.inl ⟨rfl, rfl, by omega⟩, i3, i4, i5, i6, i7, i8, i9, i10⟩
        rw [if_neg (nI_ge hlt (by omega)), if_pos (inb_nI (by omega) (by decide)), nI_clamp (by omega), T1.mr.2 _ hlt, gB_in hlt, in_L2 hB hlt, hd, Option.bind_some]
        dsimp only
        rw [if_neg (show ¬ bI true = 0 by decide), if_pos (inb_nI (by omega) (by decide)), nI_clamp (by omega), congrFun (mr_o (M := M1) (p := p + 12) (show (87 : Nat) ≠ 63 by decide)) (8 * n + m), i9, if_pos (show nI 12 = 12 from rfl)]
      · have ei : p + 12 = enL w p := by omega
        refine ⟨(2, mr M1 (p + 12)), ?_, (fun q => by cases q), M1, 12, Or.inr ⟨by rw [ei], by omega, by omega⟩, i3, i4, i5, i6, i7, i8, i9, i10⟩
        by_cases c : p + 12 < w.length
        · rw [if_neg (nI_ge c (by omega)), if_pos (inb_nI (by omega) (by decide)), nI_clamp (by omega), T1.mr.2 _ c, gB_in c, in_L2 hB c]
          rw [← ei] at e4
          rw [e4 c, Option.bind_some]
          rfl
        · rw [if_pos (nI_le (by omega) (by omega))]) (by omega) ⟨zI (zI M 85 (8 * n + m) 0) 87 (8 * n + m) 0, by
          show zI (zI (zI M 63 18 (nI p)) 85 (8 * n + m) 0) 87 (8 * n + m) 0 = zI (zI (zI M 85 (8 * n + m) 0) 87 (8 * n + m) 0) 63 18 (nI p)
          refine Prod.ext (funext fun b => ?_) rfl
          by_cases cb : b = 63
          · subst cb
            rw [zI_other (by decide), zI_other (by decide), zI_same, zI_same, zI_other (by decide), zI_other (by decide)]
          · rw [zI_other cb]
            by_cases c87 : b = 87
            · subst c87
              rw [zI_same, zI_same, zI_other (by decide), zI_other (by decide), zI_other (by decide)]
            · rw [zI_other c87, zI_other c87]
              by_cases c85 : b = 85
              · subst c85
                rw [zI_same, zI_same, zI_other (by decide)]
              · rw [zI_other c85, zI_other c85, zI_other cb], by omega, by omega, ⟨fun b b1 b2 => by rw [zI_other (by omega), zI_other (by omega)], rfl, fun k k1 k2 k3 k4 => rfl, fun k hk => rfl, fun k hk => ⟨by rw [zI_other (by decide), zI_ne (Or.inr (by omega))], rfl, by rw [zI_ne (Or.inr (by omega)), zI_other (by decide)]⟩, fun k hk => rfl⟩, rfl, rfl, fun k hk => ⟨by rw [zI_other (by decide), zI_ne (Or.inr hk)], by rw [zI_ne (Or.inr hk), zI_other (by decide)]⟩, fun k hk => rfl, by rw [zI_other (by decide), zI_in], zI_in, fun j hj => absurd hj (Nat.not_lt_zero j)⟩
    obtain ⟨q, k0, M1, i, hq, i3, i4, i5, i6, i7, i8, i9, i10⟩ := key
    have i12 : i ≤ 12 := by rcases hq with y | y <;> omega
    have z1 : Z87 M1 := fun k hk => by
      by_cases c : k = 8 * n + m
      · exact ⟨i, i12, by rw [c]; exact i9⟩
      · rw [(i6 k c).2]; exact hz k hk
    rw [k0, Option.bind_some]
    rcases hq with ⟨rfl, rfl, c2⟩ | ⟨rfl, rfl, c2⟩
    · rw [if_pos c2]
      dsimp only
      rw [if_pos rfl, mr_p]
      obtain ⟨M2, q1, q2⟩ := fails_ok (F := F) (f := 4) (pl := p + 12) ((i3.f h).mr (p := p + 12)) (z1.same (mr_o (by decide))) (by decide)
      have q1 : Mod_fails F 4 (nI (p + 12)) (mr M1 (p + 12)) = some (4, M2) := q1
      rw [q1, Option.bind_some]
      exact ⟨M2, rfl, q2⟩
    · rw [if_neg (by omega)]
      refine ⟨M1, rfl, i3, z1, i4, i5, i6, i7, i8, fun _ => ⟨by show (rng w p (enL w p)).length ≤ 12; rw [rng_len e1 e2]; exact c2, ?_, fun j hj => ?_⟩⟩
      · rw [i9]; show _ = nI (rng w p (enL w p)).length; rw [rng_len e1 e2]
      · have hj : j < enL w p - p := by have : j < (rng w p (enL w p)).length := hj; rw [rng_len e1 e2] at this; exact this
        rw [i10 j hj]
        show _ = nI ((rng w p (enL w p)).getD j 0)
        rw [rng_get hj, gB_in (by omega)]

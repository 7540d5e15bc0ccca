/-! mixed -/
def ctF (p : Nat → Bool) (lo : Nat) : Nat → Nat
  | 0 => 0
  | j + 1 => ctF p lo j + (if p (lo + j) = true then 1 else 0)
theorem ctF_s (p : Nat → Bool) (lo j : Nat) : ctF p lo (j + 1) = ctF p lo j + (if p (lo + j) = true then 1 else 0) := rfl
theorem ctF_0 {p : Nat → Bool} {lo : Nat} (h : ∀ i, p i = false) : ∀ j, ctF p lo j = 0 := by
  intro j
  induction j with
  | zero => rfl
  | succ j ih => rw [ctF_s, ih, h, if_neg (by decide)]
def pM (T : Tn) (k n m : Nat) : Bool := (T.2 n).isSome && (T.2 m).isSome && decide (farN T n m ≤ k)
def smF (T : Tn) (k lo hi : Nat) : Nat → Nat
  | 0 => 0
  | i + 1 => smF T k lo hi i + ctF (pM T k (lo + i)) (lo + i + 1) (hi - (lo + i))
theorem smF_s (T : Tn) (k lo hi i : Nat) : smF T k lo hi (i + 1) = smF T k lo hi i + ctF (pM T k (lo + i)) (lo + i + 1) (hi - (lo + i)) := rfl
theorem farN_b {T : Tn} {n m : Nat} (h1 : okW (nmW T n)) (h2 : okW (nmW T m)) : farN T n m ≤ 120 := by
  have := (lev_b (gt0 (runW (nmW T n))) (gt0 (runW (nmW T m))) (runW (nmW T n)).length (runW (nmW T m)).length).1
  have := (okW_run h1).1
  have := (okW_run h2).1
  unfold farN
  omega
theorem mixWX {F t k n hi : Nat} {S : Sp} {M : zM} (h : RX S M) (ht : t < 3) (hk : k < 10) (hn : n ≤ hi) (hh : hi < 1000) (hF : 3000 < F) : ∃ M1, NW_mixedWith F (14 + 10 * t) (nI k) (nI n) (nI hi) M = some (nI (ctF (pM (S.2.2.1 t) k n) (n + 1) (hi - n)), M1) ∧ f59 M M1 := by
  have hT := h.2.2.2.2.2.1 t ht
  have hx := hT.2.2.2.1
  unfold NW_mixedWith
  rw [has_ok hT (by omega), Option.bind_some]
  dsimp only
  cases c1 : ((S.2.2.1 t).2 n).isSome with
  | false =>
    rw [if_pos (by decide)]
    refine ⟨M, ?_, fun _ _ => rfl, fun _ _ => rfl⟩
    rw [ctF_0 (fun i => by unfold pM; rw [c1]; rfl)]
    rfl
  | true =>
    rw [if_neg (by decide)]
    obtain ⟨M1, e1, p1⟩ := measX (F := F) hx ht (by omega) c1 hF
    have r1 := p1.f.rx h
    have hT1 := r1.2.2.2.2.2.1 t ht
    have ok1 := ((hx n (by omega)).at c1).1
    rw [e1, Option.bind_some]
    dsimp only [lt]
    have key := loopN_seq (body := NW_mixedWith_B27 F (14 + 10 * t) (nI k) (nI hi)) (hi - n) (fun j => (nI (ctF (pM (S.2.2.1 t) k n) (n + 1) j), nI (n + 1 + j), M1)) (1, nI (ctF (pM (S.2.2.1 t) k n) (n + 1) (hi - n)), 0, M1) F (fun j hj => by
      unfold NW_mixedWith_B27
      dsimp only [lt]
      rw [if_neg (nI_nlt (by omega) (by omega)), has_ok hT1 (by omega), Option.bind_some, ctF_s]
      dsimp only
      cases c2 : ((S.2.2.1 t).2 (n + 1 + j)).isSome with
      | false =>
        rw [if_pos (by decide), if_neg (by unfold pM; rw [c2]; simp), nI_1]; rfl
      | true =>
        have hxm := hT1.2.2.2.1 (n + 1 + j) (by omega)
        have ok2 := (hxm.at c2).1
        have fb := farN_b ok1 ok2
        rw [if_neg (by decide), farX (F := F) (okW_run ok1) p1 hxm ht (by omega) c2 hF, Option.bind_some]
        dsimp only
        rw [show lev (gt0 (runW (nmW (S.2.2.1 t) n))) (gt0 (runW (nmW (S.2.2.1 t) (n + 1 + j)))) (runW (nmW (S.2.2.1 t) n)).length (runW (nmW (S.2.2.1 t) (n + 1 + j))).length = farN (S.2.2.1 t) n (n + 1 + j) from rfl]
        by_cases z : farN (S.2.2.1 t) n (n + 1 + j) ≤ k
        · rw [if_neg (nI_nlt z (by omega)), if_pos (by unfold pM; rw [c1, c2]; simpa using z), nI_1, nI_1]; rfl
        · rw [if_pos (nI_lt (by omega) (by omega)), if_neg (by unfold pM; rw [c1, c2]; simpa using z), nI_1]; rfl) (by
      unfold NW_mixedWith_B27
      dsimp only
      rw [if_pos (nI_lt (by omega) (by omega))]) (fun q => by cases q) (by omega)
    have key : loopN (NW_mixedWith_B27 F (14 + 10 * t) (nI k) (nI hi)) F (0, nI (n + 1), M1) = _ := key
    rw [nI_1, key, Option.bind_some]
    exact ⟨M1, rfl, p1.f⟩
theorem mixWM {F t k n hi acc : Nat} {T : Tn} {M : zM} (hT : ∀ n, n < 1000 → MN (1000 * t + n) (T.2 n) M) (hok : ∀ n, n < 1000 → ∀ w b d, T.2 n = some (w, b, d) → okW w) (ht : t < 3) (hk : k < 10) (hn : n ≤ hi) (hh : hi < 1000) (hF : 3000 < F) : ∃ M1, loopN (Mod_mixed_B77 F (nI t) (nI k) (nI hi) (nI n)) F (nI acc, nI (n + 1), M) = some (1, nI (acc + ctF (pM T k n) (n + 1) (hi - n)), 0, M1) ∧ f9x M M1 := by
  have ok : ∀ n, n < 1000 → (T.2 n).isSome = true → okW (nmW T n) := fun n hn sn => by
    obtain ⟨⟨w, b, d⟩, e⟩ := Option.isSome_iff_exists.mp sn
    have n1 : nmW T n = w := by unfold nmW; rw [e]
    rw [n1]; exact hok n hn w b d e
  have key := loopN_inv (body := Mod_mixed_B77 F (nI t) (nI k) (nI hi) (nI n)) (I := fun j s => ∃ M1, s = (nI (acc + ctF (pM T k n) (n + 1) j), nI (n + 1 + j), M1) ∧ f9x M M1) (Qx := fun q => ∃ M1, q = (1, nI (acc + ctF (pM T k n) (n + 1) (hi - n)), 0, M1) ∧ f9x M M1) (N := hi - n) (F := F) (s := (nI acc, nI (n + 1), M)) (fun j s hj hs => by
    obtain ⟨M1, rfl, f1⟩ := hs
    have hT1 : ∀ n, n < 1000 → MN (1000 * t + n) (T.2 n) M1 := fun n hn => f1.mn (hT n hn)
    have e1 : inb (nI (1000 * t + n)) 3000 = true := inb_nI (by omega) (by decide)
    have e2 : (nI (1000 * t + n)).toNatClampNeg = 1000 * t + n := nI_clamp (by omega)
    have e3 : inb (nI (1000 * t + (n + 1 + j))) 3000 = true := inb_nI (by omega) (by decide)
    have e4 : (nI (1000 * t + (n + 1 + j))).toNatClampNeg = 1000 * t + (n + 1 + j) := nI_clamp (by omega)
    have j120 : pM T k n (n + 1 + j) = false → ∃ s', Mod_mixed_J120 F (nI t) (nI k) (nI hi) (nI (acc + ctF (pM T k n) (n + 1) j)) (nI n) (nI (n + 1 + j)) M1 = some (0, s') ∧ ∃ M1, s' = (nI (acc + ctF (pM T k n) (n + 1) (j + 1)), nI (n + 1 + (j + 1)), M1) ∧ f9x M M1 := fun hp => by
      unfold Mod_mixed_J120 Mod_mixed_J121
      dsimp only [lt]
      rw [if_pos rfl, nI_1, Int32.add_zero, ctF_s, hp]
      exact ⟨_, rfl, M1, rfl, f1⟩
    refine Or.inl ?_
    unfold Mod_mixed_B77
    dsimp only [lt]
    rw [if_neg (nI_nlt (by omega) (by omega)), ix_t, ix_t, if_pos e1, if_pos e3, e2, e4]
    cases c1 : (T.2 n).isSome with
    | false =>
      have hm := hT1 n (by omega)
      rw [isNn c1] at hm
      rw [hm.1, if_pos (by decide)]
      exact j120 (by unfold pM; rw [c1]; rfl)
    | true =>
      have hl1 := (ok n (by omega) c1).1
      rw [((hT1 n (by omega)).at c1).1, if_neg (nI_pos (by omega))]
      cases c2 : (T.2 (n + 1 + j)).isSome with
      | false =>
        have hm := hT1 (n + 1 + j) (by omega)
        rw [isNn c2] at hm
        rw [hm.1, if_pos (by decide)]
        exact j120 (by unfold pM; rw [c1, c2]; rfl)
      | true =>
        have hl2 := (ok (n + 1 + j) (by omega) c2).1
        have fb := farN_b (ok n (by omega) c1) (ok (n + 1 + j) (by omega) c2)
        obtain ⟨M2, k1, k2⟩ := farM (F := F) hT1 hok ht (show n < 1000 by omega) (show n + 1 + j < 1000 by omega) c1 c2 hF
        rw [((hT1 (n + 1 + j) (by omega)).at c2).1, if_neg (nI_pos (by omega))]
        unfold Mod_mixed_J121
        rw [if_neg (by decide), k1, Option.bind_some]
        dsimp only [lt]
        rw [ctF_s]
        by_cases z : farN T n (n + 1 + j) ≤ k
        · rw [if_neg (nI_nlt z (by omega)), if_pos (by unfold pM; rw [c1, c2]; simpa using z), nI_1, nI_1]
          exact ⟨_, rfl, M2, rfl, f1.tr k2⟩
        · rw [if_pos (nI_lt (by omega) (by omega)), if_neg (by unfold pM; rw [c1, c2]; simpa using z), nI_1, Int32.add_zero]
          exact ⟨_, rfl, M2, rfl, f1.tr k2⟩) (fun s hs => by
    obtain ⟨M1, rfl, f1⟩ := hs
    refine ⟨_, ?_, (fun q => by cases q), M1, rfl, f1⟩
    unfold Mod_mixed_B77
    dsimp only
    rw [if_pos (nI_lt (by omega) (by omega))]) (by omega) ⟨M, rfl, f9x.rf⟩
  obtain ⟨q, e, M1, rfl, r⟩ := key
  exact ⟨M1, e, r⟩
theorem in_60 {lo hi : Nat} (h1 : lo < 1000) (h2 : hi < 1000) : decide ((nI lo).toInt64 ≤ (nI hi).toInt64 ∧ (nI hi).toInt64 ≤ ((nI lo) + 60).toInt64) = decide (lo ≤ hi ∧ hi ≤ lo + 60) := by
  have e : ∀ x : Int32, x.toInt64.toInt = x.toInt := fun x => by simp
  rw [show (nI lo + 60 : Int32) = nI (lo + 60) from nI_add lo 60, decide_eq_decide, Int64.le_iff_toInt_le, Int64.le_iff_toInt_le, e, e, e]
  have a1 := nI_toInt (n := lo) (by omega)
  have a2 := nI_toInt (n := hi) (by omega)
  have a3 := nI_toInt (n := lo + 60) (by omega)
  rw [a1, a2, a3]
  omega

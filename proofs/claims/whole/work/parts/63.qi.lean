def runT (T : Tn) : Tn := (T.1, fun n => (T.2 n).map (fun q => (runW q.1, q.2)))
theorem runT_W (T : Tn) (n : Nat) : nmW (runT T) n = rnN T n := by
  unfold nmW runT rnN nmW
  cases e : T.2 n with
  | none => simp [e]; rfl
  | some q => simp [e]
theorem seekT {F a : Nat} {T : Tn} {L : List Nat} {M : zM} (ha : a ≠ 52) (hL : L.length ≤ 1000) (hb : ∀ n, n ∈ L → n < 1000) (ho : ∀ i j, i < j → j < L.length → ltW (rnN T (L.getD i 0)) (rnN T (L.getD j 0)) = true ∨ (rnN T (L.getD i 0) = rnN T (L.getD j 0) ∧ L.getD i 0 < L.getD j 0)) (hn : M.1 a 1 = nI L.length) (h52 : ∀ i, i < L.length → M.1 52 i = nI (L.getD i 0)) (hC : ∀ M', M'.2 = M.2 → ∀ x y, x ∈ L → y ∈ L → Spe_compare F (a + 3) (nI x) (a + 3) (nI y) M' = some (cmpW (rnN T x) (rnN T y), M')) (h11 : M.1 a 11 = -1) (h12 : M.1 a 12 = -1) (h13 : M.1 a 13 = 0) (hF : 3000 < F) : ∃ M1, loopN (Ton_seekTwins_B51 F a) F (0, 1, M) = some (1, 0, 0, M1) ∧ TwP T L (M1.1 a 11) (M1.1 a 12) (M1.1 a 13) ∧ (∀ b, b ≠ a → M1.1 b = M.1 b) ∧ M1.2 = M.2 ∧ ∀ k, k ≠ 11 → k ≠ 12 → k ≠ 13 → M1.1 a k = M.1 a k := by
  have mono : ∀ i s j, i < s → s < j → j < L.length → rnN T (L.getD i 0) = rnN T (L.getD j 0) → rnN T (L.getD s 0) = rnN T (L.getD j 0) := fun i s j h1 h2 h3 he => by
    rcases ho i s h1 (by omega) with q | q
    · rcases ho s j h2 h3 with z | z
      · have := ltW_tr _ _ _ q z
        rw [he, ltW_irr] at this; cases this
      · exact z.1
    · exact q.1.symm.trans he
  have incr : ∀ i j, i < j → j < L.length → rnN T (L.getD i 0) = rnN T (L.getD j 0) → L.getD i 0 < L.getD j 0 := fun i j h1 h2 he => by
    rcases ho i j h1 h2 with q | q
    · rw [he, ltW_irr] at q; cases q
    · exact q.2
  have key := loopN_inv (body := Ton_seekTwins_B51 F a) (I := fun k s => ∃ M1 g, s = (nI g, nI (k + 1), M1) ∧ g ≤ k ∧ (∀ b, b ≠ a → M1.1 b = M.1 b) ∧ M1.2 = M.2 ∧ (∀ k, k ≠ 11 → k ≠ 12 → k ≠ 13 → M1.1 a k = M.1 a k) ∧ TwP T (L.take (k + 1)) (M1.1 a 11) (M1.1 a 12) (M1.1 a 13) ∧ (∀ i, g ≤ i → i ≤ k → rnN T (L.getD i 0) = rnN T (L.getD g 0)) ∧ ∀ i, i < g → rnN T (L.getD i 0) ≠ rnN T (L.getD g 0)) (Qx := fun q => ∃ M1, q = (1, 0, 0, M1) ∧ TwP T L (M1.1 a 11) (M1.1 a 12) (M1.1 a 13) ∧ (∀ b, b ≠ a → M1.1 b = M.1 b) ∧ M1.2 = M.2 ∧ ∀ k, k ≠ 11 → k ≠ 12 → k ≠ 13 → M1.1 a k = M.1 a k) (N := L.length) (F := F) (s := (0, 1, M)) (fun k s hk hs => by
    obtain ⟨M1, g, rfl, hg, f1, f2, f3, tp, g1, g2⟩ := hs
    unfold Ton_seekTwins_B51
    dsimp only [lt]
    rw [f3 1 (by decide) (by decide) (by decide), hn]
    by_cases c : L.length ≤ k + 1
    · rw [if_pos (nI_le c (by omega))]
      rw [List.take_of_length_le c] at tp
      exact Or.inr ⟨_, rfl, (fun q => by cases q), M1, rfl, tp, f1, f2, f3⟩
    · have hk1 : k + 1 < L.length := by omega
      have hgl : g < L.length := by omega
      have m1 := getD_mem hgl
      have m2 := getD_mem hk1
      have b1 := hb _ m1
      have b2 := hb _ m2
      rw [if_neg (nI_ge (by omega) (by omega)), if_neg (show ¬ (1000 : Int32) ≤ nI (k + 1) from nI_ge (b := 1000) (by omega) (by decide)), if_pos (inb_nI (by omega) (by decide)), if_pos (inb_nI (by omega) (by decide)), nI_clamp (by omega), nI_clamp (by omega), f1 52 (fun q => ha q.symm), h52 g hgl, h52 (k + 1) hk1, hC M1 f2 _ _ m1 m2, Option.bind_some, take_s hk1]
      dsimp only
      have tm : ∀ n, n ∈ L.take (k + 1) → ∃ i, i ≤ k ∧ L.getD i 0 = n := fun n hn => by
        obtain ⟨i, i1, i2, i3⟩ := mem_tk.mp hn
        exact ⟨i, by omega, i3⟩
      have gm : L.getD g 0 ∈ L.take (k + 1) := mem_tk.mpr ⟨g, by omega, hgl, rfl⟩
      by_cases cr : rnN T (L.getD g 0) = rnN T (L.getD (k + 1) 0)
      · rw [if_pos (cmpW_0.mpr cr)]
        have i1 : ∀ i, i < g → rnN T (L.getD i 0) ≠ rnN T (L.getD (k + 1) 0) := fun i hi q => g2 i hi (q.trans cr.symm)
        have keep1 : ∀ i, g ≤ i → i ≤ k + 1 → rnN T (L.getD i 0) = rnN T (L.getD g 0) := fun i h1 h2 => by
          by_cases z : i = k + 1
          · rw [z]; exact cr.symm
          · exact g1 i h1 (by omega)
        by_cases cg : k + 1 = g + 1
        · rw [if_pos (show nI (k + 1) = nI g + 1 by rw [nI_1, cg])]
          have eg : g = k := by omega
          have tw := tp.two gm (incr g (k + 1) (by omega) hk1 cr) cr (fun i hi hne => by
            obtain ⟨j, j1, rfl⟩ := tm i hi
            exact i1 j (by
              rcases Nat.lt_or_ge j g with z | z
              · exact z
              · exact absurd (by rw [show j = g by omega]) hne)) (fun i hi => hb i (List.mem_of_mem_take hi)) b2
          refine Or.inl ?_
          unfold Ton_chooseFirst
          dsimp only [lt]
          have w13 : ∀ k, k ≠ 13 → (zI M1 a 13 (M1.1 a 13 + 2)).1 a k = M1.1 a k := fun k hk => zI_ne (Or.inr hk)
          have w52 : (zI M1 a 13 (M1.1 a 13 + 2)).1 52 = M.1 52 := (zI_other (fun q => ha q.symm)).trans (f1 52 (fun q => ha q.symm))
          have w13v : (zI M1 a 13 (M1.1 a 13 + 2)).1 a 13 = M1.1 a 13 + 2 := zI_in
          have wo : ∀ b, b ≠ a → (zI M1 a 13 (M1.1 a 13 + 2)).1 b = M.1 b := fun b hb => (zI_other hb).trans (f1 b hb)
          have w2 : (zI M1 a 13 (M1.1 a 13 + 2)).2 = M.2 := f2
          generalize zI M1 a 13 (M1.1 a 13 + 2) = M2 at *
          rw [w52, h52 g hgl, h52 (k + 1) hk1, w13 12 (by decide)]
          have fin : ∀ M3, M3.1 a 11 = (if M1.1 a 12 = -1 then nI (L.getD g 0) else if M1.1 a 12 ≤ nI (L.getD (k + 1) 0) then M1.1 a 11 else nI (L.getD g 0)) → M3.1 a 12 = (if M1.1 a 12 = -1 then nI (L.getD (k + 1) 0) else if M1.1 a 12 ≤ nI (L.getD (k + 1) 0) then M1.1 a 12 else nI (L.getD (k + 1) 0)) → (∀ b, b ≠ a → M3.1 b = M2.1 b) → M3.2 = M2.2 → (∀ k, k ≠ 11 → k ≠ 12 → M3.1 a k = M2.1 a k) → ∃ s', (some ((), M3)).bind (fun (x : Unit × zM) => some (0, nI g, nI (k + 1) + 1, x.2)) = some (0, s') ∧ ∃ M1 g, s' = (nI g, nI (k + 1 + 1), M1) ∧ g ≤ k + 1 ∧ (∀ b, b ≠ a → M1.1 b = M.1 b) ∧ M1.2 = M.2 ∧ (∀ k, k ≠ 11 → k ≠ 12 → k ≠ 13 → M1.1 a k = M.1 a k) ∧ TwP T (L.take (k + 1) ++ [L.getD (k + 1) 0]) (M1.1 a 11) (M1.1 a 12) (M1.1 a 13) ∧ (∀ i, g ≤ i → i ≤ k + 1 → rnN T (L.getD i 0) = rnN T (L.getD g 0)) ∧ ∀ i, i < g → rnN T (L.getD i 0) ≠ rnN T (L.getD g 0) := fun M3 t1 t2 t3 t4 t5 => by
            refine ⟨_, rfl, M3, g, by rw [nI_1], by omega, fun b hb => (t3 b hb).trans (wo b hb), t4.trans w2, fun k k1 k2 k3 => (t5 k k1 k2).trans ((w13 k k3).trans (f3 k k1 k2 k3)), ?_, keep1, g2⟩
            rw [t1, t2, t5 13 (by decide) (by decide), w13v]
            exact tw
          by_cases y1 : M1.1 a 12 = -1
          · rw [if_pos y1]
            exact fin _ (by rw [if_pos y1, zI_ne (Or.inr (by decide)), zI_in]) (by rw [if_pos y1, zI_in]) (fun b hb => (zI_other hb).trans (zI_other hb)) rfl (fun k k1 k2 => by rw [zI_ne (Or.inr k2), zI_ne (Or.inr k1)])
          · rw [if_neg y1]
            by_cases y2 : M1.1 a 12 ≤ nI (L.getD (k + 1) 0)
            · rw [if_pos y2]
              exact fin _ (by rw [if_neg y1, if_pos y2, w13 11 (by decide)]) (by rw [if_neg y1, if_pos y2, w13 12 (by decide)]) (fun b hb => rfl) rfl (fun k k1 k2 => rfl)
            · rw [if_neg y2]
              exact fin _ (by rw [if_neg y1, if_neg y2, zI_ne (Or.inr (by decide)), zI_in]) (by rw [if_neg y1, if_neg y2, zI_in]) (fun b hb => (zI_other hb).trans (zI_other hb)) rfl (fun k k1 k2 => by rw [zI_ne (Or.inr k2), zI_ne (Or.inr k1)])
        · rw [if_neg (show ¬ nI (k + 1) = nI g + 1 from fun q => by rw [nI_1] at q; exact cg ((nI_eq (by omega) (by omega)).mp q))]
          have gk : g + 1 ≤ k := by omega
          have tw := tp.more (e := L.getD (k + 1) 0) gm (mem_tk.mpr ⟨g + 1, by omega, by omega, rfl⟩) (incr g (g + 1) (by omega) (by omega) (g1 (g + 1) (by omega) gk).symm) cr ((g1 (g + 1) (by omega) gk).trans cr) (fun i hi hr => by
            obtain ⟨j, j1, rfl⟩ := tm i hi
            exact incr j (k + 1) (by omega) hk1 hr)
          refine Or.inl ⟨_, rfl, _, g, by rw [nI_1], by omega, fun b hb => (zI_other hb).trans (f1 b hb), f2, fun k k1 k2 k3 => (zI_ne (Or.inr k3)).trans (f3 k k1 k2 k3), ?_, keep1, g2⟩
          rw [zI_ne (Or.inr (by decide)), zI_ne (Or.inr (by decide)), zI_in]
          exact tw
      · rw [if_neg (fun q => cr (cmpW_0.mp q))]
        have nw : ∀ i, i ≤ k → rnN T (L.getD i 0) ≠ rnN T (L.getD (k + 1) 0) := fun i hi q => by
          rcases Nat.lt_trichotomy i g with z | z | z
          · exact cr (mono i g (k + 1) z (by omega) hk1 q)
          · rw [z] at q; exact cr q
          · exact cr ((g1 i (by omega) hi).symm.trans q)
        refine Or.inl ⟨_, rfl, M1, k + 1, by rw [nI_1], Nat.le_refl _, f1, f2, f3, tp.new (fun i hi => by
          obtain ⟨j, j1, rfl⟩ := tm i hi
          exact nw j j1), fun i h1 h2 => by rw [show i = k + 1 by omega], fun i hi => nw i (by omega)⟩) (fun s hs => by
    obtain ⟨M1, g, rfl, hg, f1, f2, f3, tp, g1, g2⟩ := hs
    rw [List.take_of_length_le (by omega)] at tp
    refine ⟨(1, 0, 0, M1), ?_, (fun q => by cases q), M1, rfl, tp, f1, f2, f3⟩
    unfold Ton_seekTwins_B51
    dsimp only
    rw [f3 1 (by decide) (by decide) (by decide), hn, if_pos (nI_le (by omega) (by omega))]) (by omega) ⟨M, 0, rfl, Nat.le_refl _, fun _ _ => rfl, rfl, fun _ _ _ _ => rfl, by
      have one : ∀ n m, n ∈ L.take (0 + 1) → m ∈ L.take (0 + 1) → n = m := fun n m hn hm => by
        obtain ⟨i, i1, i2, rfl⟩ := mem_tk.mp hn
        obtain ⟨j, j1, j2, rfl⟩ := mem_tk.mp hm
        rw [show i = j by omega]
      rw [h11, h12, h13]
      exact ⟨⟨[], List.nodup_nil, fun n => ⟨fun q => (by cases q), fun q => (by obtain ⟨q1, m, q2, q3, _⟩ := q; exact absurd (one m n q2 q1) q3)⟩, rfl⟩, Or.inl ⟨rfl, rfl, fun n m hn hm hne => absurd (one n m hn hm) hne⟩⟩, fun i h1 h2 => by rw [show i = 0 by omega], fun i hi => absurd hi (Nat.not_lt_zero i)⟩
  obtain ⟨q, e, M1, rfl, r⟩ := key
  exact ⟨M1, e, r⟩

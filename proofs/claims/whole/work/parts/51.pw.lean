/-! the class's sorting: blocks twice as wide at each pass -/
def Gd (T : Tn) (l0 l : List Nat) (lo k : Nat) : Prop := (seg l lo k).Perm (seg l0 lo k) ∧ (seg l lo k).Pairwise (fun a b => leT T a b = true)
theorem seg_clip {l : List Nat} {lo k k' : Nat} (h : l.length ≤ lo + k') (hk : k' ≤ k) : seg l lo k' = seg l lo k := by
  unfold seg
  rw [List.take_of_length_le (by rw [List.length_drop]; omega), List.take_of_length_le (by rw [List.length_drop]; omega)]
theorem seg_app {l : List Nat} {lo a b : Nat} : seg l lo a ++ seg l (lo + a) b = seg l lo (a + b) := by
  unfold seg
  rw [List.take_add, List.drop_drop]
theorem seg_split (l : List Nat) (lo k : Nat) : l = seg l 0 lo ++ (seg l lo k ++ seg l (lo + k) l.length) := by
  have h := seg_app (l := l) (lo := 0) (a := lo) (b := k + l.length)
  rw [Nat.zero_add] at h
  rw [seg_app, h]
  unfold seg
  rw [List.drop_zero, List.take_of_length_le (by omega)]
theorem seg_nil {l : List Nat} {lo k : Nat} (h : l.length ≤ lo) : seg l lo k = [] := by
  unfold seg
  rw [List.drop_eq_nil_of_le h, List.take_nil]
theorem seg_lt {l : List Nat} {lo k lo' k' x y : Nat} (h : l.Pairwise (· < ·)) (hl : lo + k ≤ lo') (hx : x ∈ seg l lo k) (hy : y ∈ seg l lo' k') : x < y := by
  obtain ⟨i, hi, rfl⟩ := List.mem_iff_getElem.mp hx
  obtain ⟨j, hj, rfl⟩ := List.mem_iff_getElem.mp hy
  rw [← getD_g hi, ← getD_g hj]
  have a1 : i < k ∧ i < l.length - lo := by unfold seg at hi; rw [List.length_take, List.length_drop] at hi; omega
  have a2 : j < k' ∧ j < l.length - lo' := by unfold seg at hj; rw [List.length_take, List.length_drop] at hj; omega
  rw [seg_get a1.1, seg_get a2.1, getD_g (by omega), getD_g (by omega)]
  exact List.pairwise_iff_getElem.mp h _ _ _ _ (by omega)
theorem jmn_nI {a b : Nat} (ha : a < 2 ^ 31) (hb : b < 2 ^ 31) : jmn (nI a) (nI b) = nI (min a b) := by
  unfold jmn
  by_cases c : b < a
  · rw [if_pos (nI_lt c (by omega)), show min a b = b by omega]
  · rw [if_neg (nI_nlt (by omega) (by omega)), show min a b = a by omega]
theorem passX {F c a5 w : Nat} {T : Tn} {M0 M : zM} {l0 l : List Nat} (hz : zN c = 1000) (hc : c ≠ 51) (hn : l0.length ≤ 1000) (hw : 0 < w) (hw2 : w < 1024) (hlt : l0.Pairwise (· < ·)) (hC : ∀ M', M'.2 = M0.2 → ∀ x y, x ∈ l0 → y ∈ l0 → Spe_compare F a5 (nI x) a5 (nI y) M' = some (cmpW (nmW T x) (nmW T y), M')) (hr : rowC M0 M c l) (hl : l.Perm l0) (hg : ∀ b, Gd T l0 l (w * b) w) (hF : 3000 < F) : ∃ M1 l', loopN (Sor_sort_B27 F c a5 (nI l0.length) (nI w)) F (0, M) = some (1, 0, M1) ∧ rowC M0 M1 c l' ∧ l'.Perm l0 ∧ ∀ b, Gd T l0 l' (2 * w * b) (2 * w) := by
  have key := loopN_inv (body := Sor_sort_B27 F c a5 (nI l0.length) (nI w)) (I := fun i s => ∃ M1 l', s = (nI (2 * w * i), M1) ∧ 2 * w * i < l0.length + 2 * w ∧ rowC M0 M1 c l' ∧ l'.Perm l0 ∧ (∀ b, b < i → Gd T l0 l' (2 * w * b) (2 * w)) ∧ ∀ b, 2 * i ≤ b → Gd T l0 l' (w * b) w) (Qx := fun q => ∃ M1 l', q = (1, 0, M1) ∧ rowC M0 M1 c l' ∧ l'.Perm l0 ∧ ∀ b, Gd T l0 l' (2 * w * b) (2 * w)) (N := l0.length) (F := F) (s := (0, M)) (fun i s hi hs => by
    obtain ⟨M1, l', rfl, hb, r1, p1, g1, g2⟩ := hs
    have e1 := p1.length_eq
    have ew : w * (2 * i) = 2 * w * i := by rw [← Nat.mul_assoc, Nat.mul_comm w 2]
    have ew1 : w * (2 * i + 1) = 2 * w * i + w := by rw [Nat.mul_succ, ew]
    have ew2 : 2 * w * (i + 1) = 2 * w * i + 2 * w := Nat.mul_succ _ _
    have gA := g2 (2 * i) (Nat.le_refl _)
    have gB := g2 (2 * i + 1) (by omega)
    rw [ew] at gA
    rw [ew1] at gB
    generalize e0 : 2 * w * i = lo at *
    unfold Sor_sort_B27
    dsimp only [lt]
    rw [nI_add, nI_add, nI_add, nI_add]
    by_cases cx : l0.length ≤ lo + w
    · rw [if_pos (nI_le cx (by omega))]
      refine Or.inr ⟨_, rfl, (fun q => by cases q), M1, l', rfl, r1, p1, fun b => ?_⟩
      rcases Nat.lt_trichotomy b i with q | q | q
      · exact g1 b q
      · rw [q, e0]
        unfold Gd at gA ⊢
        rw [← seg_clip (k := 2 * w) (k' := w) (l := l') (by omega) (by omega), ← seg_clip (k := 2 * w) (k' := w) (l := l0) (by omega) (by omega)]
        exact gA
      · have := Nat.mul_le_mul_left (2 * w) (show i + 1 ≤ b by omega)
        unfold Gd
        rw [seg_nil (by omega), seg_nil (by omega)]
        exact ⟨List.Perm.refl _, List.Pairwise.nil⟩
    · rw [if_neg (nI_ge (by omega) (by omega)), jmn_nI (by omega) (by omega)]
      have hB' : seg l' (lo + w) (min (lo + w + w) l0.length - (lo + w)) = seg l' (lo + w) w := by
        rcases Nat.lt_or_ge (lo + w + w) l0.length with q | q
        · rw [show min (lo + w + w) l0.length - (lo + w) = w by omega]
        · exact seg_clip (by omega) (by omega)
      obtain ⟨M2, l2, k1, k2, k3, k4, k5⟩ := mergeX (F := F) (c := c) (a5 := a5) (lo := lo) (mid := lo + w) (hi := min (lo + w + w) l0.length) (T := T) (M0 := M0) (M := M1) (l := l') hz hc (by omega) (by omega) (by omega) (by omega) r1 (fun M' hM' x y hx hy => hC M' hM' x y (p1.subset hx) (p1.subset hy)) (fun a b ha hb' => by
        rw [show lo + w - lo = w by omega] at ha
        rw [hB'] at hb'
        exact seg_lt hlt (Nat.le_refl _) (gA.1.subset ha) (gB.1.subset hb')) hF
      rw [k1, Option.bind_some]
      dsimp only
      rw [show lo + w - lo = w by omega, hB'] at k5
      have c1 : seg l2 lo (2 * w) = List.merge (seg l' lo w) (seg l' (lo + w) w) (leT T) := by
        rw [← k5]
        rcases Nat.lt_or_ge (lo + w + w) l0.length with q | q
        · rw [show min (lo + w + w) l0.length - lo = 2 * w by omega]
        · exact (seg_clip (by omega) (by omega)).symm
      have gi : Gd T l0 l2 lo (2 * w) := by
        unfold Gd
        rw [c1]
        refine ⟨?_, List.pairwise_merge leT_tr leT_to _ _ gA.2 gB.2⟩
        rw [show 2 * w = w + w by omega, ← seg_app]
        exact (List.merge_perm_append _).trans (gA.1.append gB.1)
      have p2 : l2.Perm l0 := by
        refine List.Perm.trans ?_ p1
        rw [seg_split l2 lo (2 * w), seg_split l' lo (2 * w), seg_eq (l := l') (l' := l2) (lo := 0) k3 (fun j h1 h2 => k4 j (Or.inl (by omega))), k3, seg_eq (l := l') (l' := l2) (lo := lo + 2 * w) k3 (fun j h1 h2 => k4 j (Or.inr (by omega)))]
        refine List.Perm.append_left _ (List.Perm.append_right _ ?_)
        rw [c1]
        refine (List.merge_perm_append _).trans ?_
        rw [show 2 * w = w + w by omega, ← seg_app]
      refine Or.inl ⟨_, rfl, M2, l2, by rw [ew2, show w + w = 2 * w by omega], by omega, k2, p2, fun b hb' => ?_, fun b hb' => ?_⟩
      · rcases Nat.lt_or_ge b i with q | q
        · have := Nat.mul_le_mul_left (2 * w) (show b + 1 ≤ i by omega)
          rw [Nat.mul_succ] at this
          have g := g1 b q
          unfold Gd at g ⊢
          rw [seg_eq (l := l') (l' := l2) k3 (fun j h1 h2 => k4 j (Or.inl (by omega)))]
          exact g
        · rw [show b = i by omega, e0]; exact gi
      · have := Nat.mul_le_mul_left w hb'
        rw [show w * (2 * (i + 1)) = lo + 2 * w by rw [show 2 * (i + 1) = 2 * i + 1 + 1 by omega, Nat.mul_succ, ew1]; omega] at this
        have g := g2 b (by omega)
        unfold Gd at g ⊢
        rw [seg_eq (l := l') (l' := l2) k3 (fun j h1 h2 => k4 j (Or.inr (by omega)))]
        exact g) (fun s hs => by
    obtain ⟨M1, l', rfl, hb, r1, p1, g1, g2⟩ := hs
    have e1 := p1.length_eq
    have hm : l0.length ≤ 2 * w * l0.length := Nat.le_mul_of_pos_left _ (by omega)
    refine ⟨(1, 0, M1), ?_, (fun q => by cases q), M1, l', rfl, r1, p1, fun b => ?_⟩
    · unfold Sor_sort_B27
      dsimp only
      rw [nI_add, if_pos (nI_le (by omega) (by omega))]
    · rcases Nat.lt_or_ge b l0.length with q | q
      · exact g1 b q
      · have := Nat.mul_le_mul_left (2 * w) q
        unfold Gd
        rw [seg_nil (by omega), seg_nil (by omega)]
        exact ⟨List.Perm.refl _, List.Pairwise.nil⟩) (by omega) ⟨M, l, rfl, by rw [Nat.mul_zero]; omega, hr, hl, fun b hb => absurd hb (Nat.not_lt_zero b), fun b _ => hg b⟩
  obtain ⟨q, e, M1, l', rfl, r⟩ := key
  exact ⟨M1, l', e, r⟩
theorem pw_le {T : Tn} {l : List Nat} (hd : l.Nodup) (h : l.Pairwise (fun a b => leT T a b = true)) : l.Pairwise (ahead T) :=
  List.pairwise_iff_getElem.mpr (fun i j hi hj hij => by
    have a1 := List.pairwise_iff_getElem.mp h i j hi hj hij
    have a2 := List.pairwise_iff_getElem.mp hd i j hi hj hij
    rw [leT_iff] at a1
    rcases ahead_tot (T := T) a2 with q | q
    · exact q
    · exact absurd q a1)
theorem pw_1 {R : Nat → Nat → Prop} {l : List Nat} (h : l.length ≤ 1) : l.Pairwise R :=
  List.pairwise_iff_getElem.mpr (fun i j hi hj hij => by omega)
theorem sortX {F c a5 : Nat} {T : Tn} {M0 M : zM} {l0 : List Nat} (hz : zN c = 1000) (hc : c ≠ 51) (hn : l0.length ≤ 1000) (hlt : l0.Pairwise (· < ·)) (hC : ∀ M', M'.2 = M0.2 → ∀ x y, x ∈ l0 → y ∈ l0 → Spe_compare F a5 (nI x) a5 (nI y) M' = some (cmpW (nmW T x) (nmW T y), M')) (hr : rowC M0 M c l0) (hF : 3000 < F) : ∃ M1 L, Sor_sort F c (nI l0.length) a5 M = some ((), M1) ∧ rowC M0 M1 c L ∧ L.Perm l0 ∧ L.Pairwise (ahead T) := by
  have hd : l0.Nodup := List.Pairwise.imp (fun h => by omega) hlt
  have key := loopN_inv (body := Sor_sort_B17 F c a5 (nI l0.length)) (I := fun i s => ∃ M1 l', s = (nI (2 ^ i), M1) ∧ rowC M0 M1 c l' ∧ l'.Perm l0 ∧ ∀ b, Gd T l0 l' (2 ^ i * b) (2 ^ i)) (Qx := fun q => ∃ M1 L, q = (1, 0, M1) ∧ rowC M0 M1 c L ∧ L.Perm l0 ∧ L.Pairwise (ahead T)) (N := 10) (F := F) (s := (1, M)) (fun i s hi hs => by
    obtain ⟨M1, l', rfl, r1, p1, g1⟩ := hs
    have e1 := p1.length_eq
    have h2 : 0 < 2 ^ i := Nat.pow_pos (by decide)
    have h3 : 2 ^ i < 1024 := Nat.pow_lt_pow_right (a := 2) (by decide) hi
    have ed : 2 ^ (i + 1) = 2 * 2 ^ i := by rw [Nat.pow_succ, Nat.mul_comm]
    rw [ed]
    generalize 2 ^ i = w at *
    unfold Sor_sort_B17
    dsimp only [lt]
    by_cases cx : l0.length ≤ w
    · rw [if_pos (nI_le cx (by omega))]
      refine Or.inr ⟨_, rfl, (fun q => by cases q), M1, l', rfl, r1, p1, pw_le (p1.nodup_iff.mpr hd) ?_⟩
      have := (g1 0).2
      unfold seg at this
      rw [Nat.mul_zero, List.drop_zero, List.take_of_length_le (by omega)] at this
      exact this
    · obtain ⟨M2, l2, k1, k2, k3, k4⟩ := passX (F := F) hz hc hn h2 h3 hlt hC r1 p1 g1 hF
      rw [if_neg (nI_ge (by omega) (by omega)), k1, Option.bind_some]
      dsimp only
      rw [if_pos rfl, nI_add]
      exact Or.inl ⟨_, rfl, M2, l2, by rw [show w + w = 2 * w by omega], k2, k3, k4⟩) (fun s hs => by
    obtain ⟨M1, l', rfl, r1, p1, g1⟩ := hs
    have e1 := p1.length_eq
    refine ⟨(1, 0, M1), ?_, (fun q => by cases q), M1, l', rfl, r1, p1, pw_le (p1.nodup_iff.mpr hd) ?_⟩
    · unfold Sor_sort_B17
      dsimp only
      rw [if_pos (show nI l0.length ≤ nI 1024 from nI_le (by omega) (by decide))]
    · have := (g1 0).2
      unfold seg at this
      rw [Nat.mul_zero, List.drop_zero, List.take_of_length_le (show l'.length ≤ 2 ^ 10 by omega)] at this
      exact this) (by omega) ⟨M, l0, rfl, hr, List.Perm.refl _, fun b => ⟨List.Perm.refl _, pw_1 (by unfold seg; rw [List.length_take]; omega)⟩⟩
  obtain ⟨q, e, M1, L, rfl, r⟩ := key
  refine ⟨M1, L, ?_, r⟩
  unfold Sor_sort
  dsimp only [lt]
  rw [hz, show jmn (nI l0.length) (jmn (Int32.ofNat 1000) 1000) = nI l0.length by rw [show jmn (Int32.ofNat 1000) 1000 = nI 1000 by decide, jmn_nI (by omega) (by decide), show min l0.length 1000 = l0.length by omega], e, Option.bind_some]
  rfl
theorem named_lt (T : Tn) : (named T).Pairwise (· < ·) := by
  unfold named
  exact List.Pairwise.filter _ List.pairwise_lt_range
theorem named_len (T : Tn) : (named T).length ≤ 1000 := by
  unfold named
  exact Nat.le_trans (List.length_filter_le _ _) (by rw [List.length_range]; exact Nat.le_refl _)
theorem XN.keep1 {a n : Nat} {q : Option Nm} {M M' : zM} (h : XN a n q M) (hs : ∀ b, a < b → b ≤ a + 8 → M'.1 b = M.1 b ∧ M'.2 b = M.2 b) : XN a n q M' := by
  unfold XN at h ⊢
  rw [(hs (a + 5) (by omega) (by omega)).1, (hs (a + 6) (by omega) (by omega)).1, (hs (a + 7) (by omega) (by omega)).1, (hs (a + 8) (by omega) (by omega)).1, (hs (a + 1 + 1) (by omega) (by omega)).2, (hs (a + 3 + 1) (by omega) (by omega)).2]
  exact h
theorem RX.tn {S : Sp} {M M' : zM} {t : Nat} (h : RX S M) (ht : t < 3) (hs : ∀ b, b < 57 → (b < 44 ∨ 53 ≤ b) → (b < 14 + 10 * t ∨ 14 + 10 * t + 9 < b) → M'.1 b = M.1 b ∧ M'.2 b = M.2 b) (hx : XT (14 + 10 * t) (S.2.2.1 t) M') : RX S M' := by
  obtain ⟨h1, h2, h3, h4, h5, h6, h7, h8⟩ := h
  refine ⟨h1, h2, by rw [(hs 1 (by decide) (by decide) (by omega)).1]; exact h3, by rw [(hs 2 (by decide) (by decide) (by omega)).1]; exact h4, by rw [(hs 12 (by decide) (by decide) (by omega)).1]; exact h5, fun t' ht' => ?_, h7.same (hs 53 (by decide) (by decide) (by omega)).1 (hs 54 (by decide) (by decide) (by omega)).2, h8.same (hs 55 (by decide) (by decide) (by omega)).1 (hs 56 (by decide) (by decide) (by omega)).2⟩
  by_cases c : t' = t
  · rw [c]; exact hx
  · exact (h6 t' ht').same (fun b h1 h2 => hs b (by omega) (by omega) (by omega))
theorem srtX {F : Nat} (hF : 3000 < F) : SrtX F := by
  intro t S M ht h
  have hT := h.2.2.2.2.2.1 t ht
  obtain ⟨x0, x1, x2, x3, x4, x5⟩ := hT
  unfold Ton_bringInOrder
  by_cases c : M.1 (14 + 10 * t) 9 = 0
  · have zc : zN (14 + 10 * t + 9) = 1000 := by
      rcases (show t = 0 ∨ t = 1 ∨ t = 2 by omega) with rfl | rfl | rfl <;> rfl
    obtain ⟨M1, e1, k1, k2, k3⟩ := putNamed_ok (F := F) (a := 14 + 10 * t) (c := 14 + 10 * t + 9) (T := S.2.2.1 t) (M := M) x3 (Or.inr (by omega)) zc hF
    have k3 : ∀ j, j < (named (S.2.2.1 t)).length → M1.1 (14 + 10 * t + 9) j = nI ((named (S.2.2.1 t)).getD j 0) := k3
    have hz := (zN_tn ht).1
    obtain ⟨M2, L, e2, r2, p2, o2⟩ := sortX (F := F) (c := 14 + 10 * t + 9) (a5 := 14 + 10 * t + 1) (T := S.2.2.1 t) (M0 := M) (M := M1) (l0 := named (S.2.2.1 t)) zc (by omega) (named_len _) (named_lt _) (fun M' hM' x y hx hy => by
      have hx := named_mem hx
      have hy := named_mem hy
      obtain ⟨⟨v, b, d⟩, q1⟩ := Option.isSome_iff_exists.mp hx.2
      obtain ⟨⟨w, b', d'⟩, q2⟩ := Option.isSome_iff_exists.mp hy.2
      have m1 := x3 x hx.1
      have m2 := x3 y hy.1
      rw [q1] at m1
      rw [q2] at m2
      have n1 : nmW (S.2.2.1 t) x = v := by unfold nmW; rw [q1]
      have n2 : nmW (S.2.2.1 t) y = w := by unfold nmW; rw [q2]
      rw [n1, n2]
      exact scmp_ok m1.1 m2.1 (by omega) (by omega) (by rw [hz]; decide) (by rw [hz]; decide) (by rw [hM']; exact m1.2.2.2.2.2.2.2.2.1) (by rw [hM']; exact m2.2.2.2.2.2.2.2.2.1) hF) ⟨fun b b1 _ => k1 b b1, k2, k3⟩ hF
    obtain ⟨r21, r22, r23⟩ := r2
    rw [if_pos c, e1, Option.bind_some]
    dsimp only [lt]
    rw [k1 (14 + 10 * t) (by omega), x2, e2, Option.bind_some]
    have hO : IsOrd (S.2.2.1 t) L := ⟨p2, o2⟩
    have fa : ∀ k, k ≠ 9 → (zI M2 (14 + 10 * t) 9 1).1 (14 + 10 * t) k = M.1 (14 + 10 * t) k := fun k hk => by
      rw [zI_ne (Or.inr hk), r21 _ (by omega) (by omega)]
    have fo : ∀ b, b ≠ 14 + 10 * t → b ≠ 14 + 10 * t + 9 → b ≠ 51 → (zI M2 (14 + 10 * t) 9 1).1 b = M.1 b := fun b b1 b2 b3 => (zI_other b1).trans (r21 b b2 b3)
    have f2 : (zI M2 (14 + 10 * t) 9 1).2 = M.2 := r22
    have f9 : ∀ i, i < L.length → (zI M2 (14 + 10 * t) 9 1).1 (14 + 10 * t + 9) i = nI (L.getD i 0) := fun i hi => by
      rw [zI_other (by omega)]; exact r23 i hi
    refine ⟨_, L, rfl, h.tn ht (fun b b1 b2 b3 => ⟨fo b (by omega) (by omega) (by omega), by rw [f2]⟩) ⟨x0, ?_, ?_, fun n hn => (x3 n hn).keep1 (fun b b1 b2 => ⟨fo b (by omega) (by omega) (by omega), by rw [f2]⟩), Or.inr ⟨L, hO, f9⟩, ?_⟩, fun b hb => ⟨fo b (by omega) (by omega) (by omega), by rw [f2]⟩, hO, f9⟩
    · rw [fa 0 (by decide)]; exact x1
    · rw [fa 1 (by decide)]; exact x2
    · rw [fa 10 (by decide), fa 11 (by decide), fa 12 (by decide), fa 13 (by decide)]; exact x5
  · rw [if_neg c]
    rcases x4 with q | ⟨L, q1, q2⟩
    · exact absurd q c
    · exact ⟨M, L, rfl, h, sameHi.rf, q1, q2⟩
theorem ok_order {F : Nat} (hF : 3000 < F) (x y : Int32) : Good (NW_order F x y) (Mod_order F x y) := ok_order_of (srtX hF) (srtM hF) x y
theorem ok_place {F : Nat} (hF : 3000 < F) (x y : Int32) : Good (NW_place F x y) (Mod_place F x y) := ok_place_of (srtX hF) (srtM hF) hF x y

/-! chain -/
def lzO (T : Tn) (n : Nat) : Option Nat := (T.2 n).map (fun q => (runW q.1).length)
def lzV (T : Tn) (n : Nat) : Int32 := onm (T.2 n) (fun z => nI (runW z.1).length)
theorem lzV_s {T : Tn} {n r : Nat} (h : lzO T n = some r) : lzV T n = nI r ∧ (T.2 n).isSome = true := by
  unfold lzO at h; unfold lzV onm
  cases e : T.2 n with
  | none => rw [e] at h; cases h
  | some q => rw [e] at h; simp at h; subst h; exact ⟨rfl, rfl⟩
theorem lzV_n {T : Tn} {n : Nat} (h : lzO T n = none) : lzV T n = -1 ∧ (T.2 n).isSome = false := by
  unfold lzO at h; unfold lzV onm
  cases e : T.2 n with
  | none => exact ⟨rfl, rfl⟩
  | some q => rw [e] at h; cases h
def vch (T : Tn) (n : Nat) : Nat → Nat
  | 0 => n
  | i + 1 => (lzO T (vch T n i)).getD 0
def stpC (T : Tn) (n m : Nat) : Prop := lzO T (vch T n m) = none ∨ ∃ i, i ≤ m ∧ lzO T (vch T n m) = some (vch T n i)
def IsCh (T : Tn) (n m : Nat) : Prop := stpC T n m ∧ ∀ j, j < m → ¬ stpC T n j
def lenT (T : Tn) : Prop := ∀ n, n < 1000 → ∀ w b d, T.2 n = some (w, b, d) → w.length ≤ 60
theorem lzO_60 {T : Tn} (h : lenT T) {n r : Nat} (hn : n < 1000) (e : lzO T n = some r) : r ≤ 60 := by
  unfold lzO at e
  cases c : T.2 n with
  | none => rw [c] at e; cases e
  | some q =>
    obtain ⟨w, b, d⟩ := q
    have h1 := h n hn w b d c
    have h2 := runW_len w
    rw [c] at e; simp at e; omega
theorem vch_lt {T : Tn} (h : lenT T) {n : Nat} (hn : n < 1000) : ∀ i, vch T n i < 1000 ∧ vch T n (i + 1) ≤ 60 := by
  intro i
  induction i with
  | zero =>
    refine ⟨hn, ?_⟩
    show (lzO T n).getD 0 ≤ 60
    cases e : lzO T n with
    | none => exact Nat.zero_le _
    | some r => exact lzO_60 h hn e
  | succ i ih =>
    have h1 : vch T n (i + 1) < 1000 := by omega
    refine ⟨h1, ?_⟩
    show (lzO T (vch T n (i + 1))).getD 0 ≤ 60
    cases e : lzO T (vch T n (i + 1)) with
    | none => exact Nat.zero_le _
    | some r => exact lzO_60 h h1 e
theorem nst {T : Tn} {n j : Nat} (h : ¬ stpC T n j) : lzO T (vch T n j) = some (vch T n (j + 1)) ∧ ∀ i, i ≤ j → vch T n (j + 1) ≠ vch T n i := by
  unfold stpC at h
  cases e : lzO T (vch T n j) with
  | none => exact absurd (Or.inl e) h
  | some r =>
    have e2 : vch T n (j + 1) = r := by show (lzO T (vch T n j)).getD 0 = r; rw [e]; rfl
    rw [e2]
    exact ⟨rfl, fun i hi q => h (Or.inr ⟨i, hi, by rw [e, q]⟩)⟩
theorem nodup_le : ∀ (k : Nat) (l : List Nat), l.Nodup → (∀ x ∈ l, x < k) → l.length ≤ k := by
  intro k
  induction k with
  | zero => intro l _ h; cases l with
    | nil => exact Nat.le_refl _
    | cons a l => exact absurd (h a (by simp)) (by omega)
  | succ k ih =>
    intro l hl h
    by_cases c : k ∈ l
    · have h1 := List.length_erase_of_mem c
      have h2 := ih (l.erase k) (hl.erase k) (fun x hx => by
        have h3 := (List.Nodup.mem_erase_iff hl).mp hx
        have := h x h3.2
        have := h3.1
        omega)
      omega
    · have := ih l hl (fun x hx => by
        have := h x hx
        have : x ≠ k := fun q => c (q ▸ hx)
        omega)
      omega
theorem ch_nodup {T : Tn} {n : Nat} : ∀ k, (∀ j, j < k → ¬ stpC T n j) → ((List.range k).map (fun j => vch T n (j + 1))).Nodup := by
  intro k
  induction k with
  | zero => intro _; simp
  | succ k ih =>
    intro h
    rw [List.range_succ, List.map_append, List.nodup_append]
    refine ⟨ih (fun j hj => h j (by omega)), by simp, fun a ha b hb => ?_⟩
    rw [List.mem_map] at ha
    obtain ⟨j, hj, rfl⟩ := ha
    rw [List.mem_range] at hj
    simp at hb
    rw [hb]
    exact fun q => (nst (h k (by omega))).2 (j + 1) (by omega) q.symm
theorem ch_ex {T : Tn} (h : lenT T) {n : Nat} (hn : n < 1000) : ∃ m, m ≤ 61 ∧ IsCh T n m := by
  have key : ∀ k, (∃ m, m < k ∧ IsCh T n m) ∨ ∀ j, j < k → ¬ stpC T n j := by
    intro k
    induction k with
    | zero => exact Or.inr (fun j hj => by omega)
    | succ k ih =>
      rcases ih with ⟨m, hm, q⟩ | q
      · exact Or.inl ⟨m, by omega, q⟩
      · by_cases c : stpC T n k
        · exact Or.inl ⟨k, by omega, c, q⟩
        · exact Or.inr (fun j hj => by
            by_cases e : j = k
            · rw [e]; exact c
            · exact q j (by omega))
  rcases key 62 with ⟨m, hm, q⟩ | q
  · exact ⟨m, by omega, q⟩
  · have h1 := nodup_le 61 _ (ch_nodup 62 q) (fun x hx => by
      rw [List.mem_map] at hx
      obtain ⟨j, _, rfl⟩ := hx
      have := (vch_lt h hn j).2
      omega)
    rw [List.length_map, List.length_range] at h1
    omega
theorem sr_bit {a k : Nat} (ha : a < 2 ^ 62) (hk : k < 62) : lg_cmp ((sr (lN a) (nI k)) &&& 1) 0 = 0 ↔ a.testBit k = false := by
  unfold sr
  rw [pf_shr (d := k) (by rw [wb_c k (by omega), wb_tb, wb_sm k (by omega), BitVec.toNat_ofNat]; exact Nat.mod_eq_of_lt (by omega)) ha, wb_a1 (Nat.lt_of_le_of_lt (Nat.div_le_self a (2 ^ k)) (by omega)), Nat.testBit_eq_decide_div_mod_eq]
  have := Nat.mod_lt (a / 2 ^ k) (show 2 > 0 by decide)
  generalize a / 2 ^ k % 2 = z at *
  rcases (show z = 0 ∨ z = 1 by omega) with q | q
  · rw [q]; decide
  · rw [q]; decide
def cmN (T : Tn) (n : Nat) : Nat → Nat
  | 0 => 0
  | i + 1 => cmN T n i ||| 2 ^ vch T n (i + 1)
theorem cmN_lt {T : Tn} (h : lenT T) {n : Nat} (hn : n < 1000) : ∀ i, cmN T n i < 2 ^ 62 := by
  intro i
  induction i with
  | zero => exact (by decide : 0 < 2 ^ 62)
  | succ i ih => exact Nat.or_lt_two_pow ih (Nat.pow_lt_pow_right (by decide) (by have := (vch_lt h hn i).2; omega))
theorem cmN_bit {T : Tn} {n k : Nat} : ∀ i, (cmN T n i).testBit k = true ↔ ∃ j, 1 ≤ j ∧ j ≤ i ∧ vch T n j = k := by
  intro i
  induction i with
  | zero =>
    constructor
    · intro q; unfold cmN at q; simp at q
    · rintro ⟨j, h1, h2, -⟩; omega
  | succ i ih =>
    show (cmN T n i ||| 2 ^ vch T n (i + 1)).testBit k = true ↔ _
    rw [Nat.testBit_or, Bool.or_eq_true, ih, Nat.testBit_two_pow, decide_eq_true_iff]
    constructor
    · rintro (⟨j, h1, h2, h3⟩ | q)
      · exact ⟨j, h1, by omega, h3⟩
      · exact ⟨i + 1, by omega, by omega, q⟩
    · rintro ⟨j, h1, h2, h3⟩
      by_cases c : j = i + 1
      · exact Or.inr (c ▸ h3)
      · exact Or.inl ⟨j, h1, by omega, h3⟩
theorem cmN_sl {T : Tn} (h : lenT T) {n : Nat} (hn : n < 1000) (i : Nat) : lN (cmN T n i) ||| sl 1 (nI (vch T n (i + 1))) = lN (cmN T n (i + 1)) := by
  have h1 := (vch_lt h hn i).2
  have h2 := cmN_lt h hn i
  unfold sl
  rw [show (1 : Int64) = lN 1 from rfl, wb_shl 1 (by omega), Nat.one_mul, wb_or (by omega) (Nat.pow_lt_pow_right (by decide) (by omega))]
  rfl
theorem chainX {F a n m : Nat} {T : Tn} {M : zM} (y : Int32) (hT : XT a T M) (hn : n < 1000) (hm : m ≤ 61) (hc : IsCh T n m) (hF : 3000 < F) : loopN (NW_chain_B54 F (nI n) y a) F (1, nI n, -1, 0, 0, M) = some (1, nI (m + 1), nI (vch T n m), lzV T (vch T n m), 0, 0, M) := by
  have hl : lenT T := hT.len
  have hv := vch_lt hl hn
  have hlet : ∀ i, Ton_lettersOf F a (nI (vch T n i)) M = some (lzV T (vch T n i), M) := fun i => (get5 hT (hv i).1).2.1
  have stp1 : ∀ i, i < m → NW_chain_B54 F (nI n) y a (nI (i + 1), nI (vch T n i), -1, lN (cmN T n i), nI i, M) = some (0, nI (i + 1 + 1), nI (vch T n (i + 1)), -1, lN (cmN T n (i + 1)), nI (i + 1), M) := fun i hi => by
    have h1 := nst (hc.2 i hi)
    have h2 := lzV_s h1.1
    have h3 := (hv i).2
    have hb : (cmN T n i).testBit (vch T n (i + 1)) = false := by
      cases e : (cmN T n i).testBit (vch T n (i + 1)) with
      | false => rfl
      | true =>
        obtain ⟨j, q1, q2, q3⟩ := (cmN_bit i).mp e
        exact absurd q3.symm (h1.2 j q2)
    unfold NW_chain_B54
    dsimp only [lt]
    rw [if_neg (show ¬ (61 : Int32) < nI i from nI_nlt (a := 61) (by omega) (by decide)), has_ok hT (hv i).1, h2.2, Option.bind_some]
    dsimp only
    rw [if_neg (by decide), if_pos rfl, hlet, h2.1, Option.bind_some]
    dsimp only
    rw [if_neg (show ¬ nI (vch T n (i + 1)) = nI n from fun q => h1.2 0 (by omega) ((nI_eq (a := vch T n (i + 1)) (b := n) (by omega) (by omega)).mp q)), if_pos ((sr_bit (cmN_lt hl hn i) (by omega)).mpr hb), cmN_sl hl hn, nI_1, nI_1]
  cases e : lzO T (vch T n m) with
  | none =>
    exact loopN_seq (body := NW_chain_B54 F (nI n) y a) m (fun i => (nI (i + 1), nI (vch T n i), -1, lN (cmN T n i), nI i, M)) (1, nI (m + 1), nI (vch T n m), lzV T (vch T n m), 0, 0, M) F stp1 (by
      unfold NW_chain_B54
      dsimp only [lt]
      rw [if_neg (show ¬ (61 : Int32) < nI m from nI_nlt (a := 61) (by omega) (by decide)), has_ok hT (hv m).1, (lzV_n e).2, Option.bind_some]
      dsimp only
      rw [if_pos (by decide), (lzV_n e).1]) (fun q => by cases q) (by omega)
  | some r =>
    have h2 := lzV_s e
    have h3 := lzO_60 hl (hv m).1 e
    have h4 : ∃ i, i ≤ m ∧ r = vch T n i := by
      rcases hc.1 with q | ⟨i, hi, q⟩
      · rw [e] at q; cases q
      · rw [e] at q; exact ⟨i, hi, Option.some.inj q⟩
    have key := loopN_seq (body := NW_chain_B54 F (nI n) y a) (m + 1) (fun i => if i ≤ m then (nI (i + 1), nI (vch T n i), -1, lN (cmN T n i), nI i, M) else (nI (m + 1), nI (vch T n m), lzV T (vch T n m), lN (cmN T n m), nI (m + 1), M)) (1, nI (m + 1), nI (vch T n m), lzV T (vch T n m), 0, 0, M) F (fun i hi => by
      rw [if_pos (show i ≤ m by omega)]
      by_cases c : i < m
      · rw [if_pos (show i + 1 ≤ m by omega)]; exact stp1 i c
      · have c : i = m := by omega
        subst c
        rw [if_neg (show ¬ i + 1 ≤ i by omega)]
        unfold NW_chain_B54
        dsimp only [lt]
        rw [if_neg (show ¬ (61 : Int32) < nI i from nI_nlt (a := 61) (by omega) (by decide)), has_ok hT (hv i).1, h2.2, Option.bind_some]
        dsimp only
        rw [if_neg (by decide), if_pos rfl, hlet, h2.1, Option.bind_some]
        dsimp only
        by_cases c2 : nI r = nI n
        · rw [if_pos c2, nI_1]
        · rw [if_neg c2, if_neg (fun q => by
            have := (sr_bit (cmN_lt hl hn i) (show r < 62 by omega)).mp q
            obtain ⟨j, hj, hr⟩ := h4
            have : (cmN T n i).testBit r = true := (cmN_bit i).mpr ⟨j, by
              by_cases z : j = 0
              · subst z; exact absurd (by rw [hr]; rfl) c2
              · omega, hj, hr.symm⟩
            simp_all), nI_1]) (by
      rw [if_neg (show ¬ m + 1 ≤ m by omega)]
      unfold NW_chain_B54
      dsimp only [lt]
      rw [has_ok hT (hv m).1, h2.2, Option.bind_some]
      dsimp only
      rw [if_neg (show ¬ bI true = 0 by decide), h2.1, if_neg (nlen_ne (by omega))]
      split <;> rfl) (fun q => by cases q) (by omega)
    exact key
/-! the reference's side of it; cells that hold nothing between two calls -/
theorem RM.keep {S : Sp} {M M' : zM} (h : RM S M) (hs : ∀ b, 63 ≤ b → (b < 92 ∨ b = 95) → M'.1 b = M.1 b ∧ M'.2 b = M.2 b) : RM S M' := by
  obtain ⟨h1, h2, h3, h4, h5, h6, h7⟩ := h
  have e63 := (hs 63 (by decide) (by decide)).1
  refine ⟨by rw [e63]; exact h1, by rw [(hs 79 (by decide) (by decide)).1]; exact h2, by rw [e63]; exact h3, fun t ht => ⟨by rw [(hs 64 (by decide) (by decide)).1]; exact (h4 t ht).1, fun n hn => ((h4 t ht).2 n hn).same (fun b h1 h2 => hs b (by omega) (by omega))⟩, by rw [e63]; exact h5, by rw [(hs 95 (by decide) (by decide)).1]; exact h6, ?_, h7.2.same (hs 87 (by decide) (by decide)).1⟩
  rw [e63, (hs 91 (by decide) (by decide)).1]; exact h7.1
def cmM (T : Tn) (n : Nat) (M : zM) : Nat → zM
  | 0 => zI (zFill M 97 1000 0) 97 n 1
  | i + 1 => zI (cmM T n M i) 97 (vch T n (i + 1)) 1
theorem cmM_o {T : Tn} {n : Nat} {M : zM} {b : Nat} (hb : b ≠ 97) : ∀ i, (cmM T n M i).1 b = M.1 b ∧ (cmM T n M i).2 b = M.2 b := by
  intro i
  induction i with
  | zero => exact ⟨(zI_other hb).trans (zFill_other hb), rfl⟩
  | succ i ih => exact ⟨(zI_other hb).trans ih.1, ih.2⟩
theorem cmM_v {T : Tn} {n : Nat} {M : zM} {k : Nat} (hk : k < 1000) : ∀ i, (cmM T n M i).1 97 k = 0 ↔ ∀ j, j ≤ i → k ≠ vch T n j := by
  intro i
  induction i with
  | zero =>
    show (zI (zFill M 97 1000 0) 97 n 1).1 97 k = 0 ↔ _
    by_cases c : k = n
    · subst c
      rw [zI_in]
      exact ⟨fun q => absurd q (by decide), fun q => absurd rfl (q 0 (Nat.le_refl _))⟩
    · rw [zI_ne (Or.inr c), zFill_in hk]
      exact ⟨fun _ j hj => by
        have : j = 0 := by omega
        subst this; exact c, fun _ => rfl⟩
  | succ i ih =>
    show (zI (cmM T n M i) 97 (vch T n (i + 1)) 1).1 97 k = 0 ↔ _
    by_cases c : k = vch T n (i + 1)
    · subst c
      rw [zI_in]
      exact ⟨fun q => absurd q (by decide), fun q => absurd rfl (q (i + 1) (Nat.le_refl _))⟩
    · rw [zI_ne (Or.inr c), ih]
      exact ⟨fun q j hj => by
        by_cases z : j = i + 1
        · rw [z]; exact c
        · exact q j (by omega), fun q j hj => q j (by omega)⟩
theorem chainM {F t n m : Nat} {S : Sp} {M : zM} (x y : Int32) (h0 : okS S) (h : RM S M) (ht : t < 3) (hn : n < 1000) (hm : m ≤ 61) (hc : IsCh (S.2.2.1 t) n m) (hF : 3000 < F) : (loopN (Mod_chain_B37 F (nI t) x y) F (0, M) = some (1, 0, zFill M 97 1000 0)) ∧ (∀ i, Mod_lettersOf F (nI t) (nI (vch (S.2.2.1 t) n i)) (cmM (S.2.2.1 t) n M i) = some (lzV (S.2.2.1 t) (vch (S.2.2.1 t) n i), cmM (S.2.2.1 t) n M i)) ∧ loopN (Mod_chain_B81 F (nI t) y) F (1, nI n, lzV (S.2.2.1 t) n, cmM (S.2.2.1 t) n M 0) = some (1, nI (m + 1), nI (vch (S.2.2.1 t) n m), lzV (S.2.2.1 t) (vch (S.2.2.1 t) n m), cmM (S.2.2.1 t) n M m) := by
  have hl : lenT (S.2.2.1 t) := fun n hn w b d e => ((h0.2.2.1 t ht).2 n hn w b d e).1.1
  have hv := vch_lt hl hn
  have hlet : ∀ i, Mod_lettersOf F (nI t) (nI (vch (S.2.2.1 t) n i)) (cmM (S.2.2.1 t) n M i) = some (lzV (S.2.2.1 t) (vch (S.2.2.1 t) n i), cmM (S.2.2.1 t) n M i) := fun i => Mod_lettersOf_ok (((h.2.2.2.1 t ht).2 _ (hv i).1).same (fun b h1 h2 => cmM_o (by omega) i)) (fun z hz => hl _ (hv i).1 z.1 z.2.1 z.2.2 hz) ht (hv i).1
  refine ⟨?_, hlet, ?_⟩
  · have key := loopN_seq (body := Mod_chain_B37 F (nI t) x y) 1000 (fun i => (nI i, zFill M 97 i 0)) (1, 0, zFill M 97 1000 0) F (fun i hi => by
      unfold Mod_chain_B37
      dsimp only [lt]
      rw [if_neg (show ¬ (1000 : Int32) ≤ nI i from nI_ge (b := 1000) hi (by decide)), if_pos (inb_nI hi (by decide)), nI_clamp (by omega), show (0 &&& 1 : Int32) = 0 from by decide, zFill_s, nI_1]) (by
      unfold Mod_chain_B37
      exact if_pos (by decide)) (fun q => by cases q) (by omega)
    simp only [zFill_0, nI_0] at key
    exact key
  · exact loopN_seq (body := Mod_chain_B81 F (nI t) y) m (fun i => (nI (i + 1), nI (vch (S.2.2.1 t) n i), lzV (S.2.2.1 t) (vch (S.2.2.1 t) n i), cmM (S.2.2.1 t) n M i)) (1, nI (m + 1), nI (vch (S.2.2.1 t) n m), lzV (S.2.2.1 t) (vch (S.2.2.1 t) n m), cmM (S.2.2.1 t) n M m) F (fun i hi => by
      have h1 := nst (hc.2 i hi)
      have h2 := lzV_s h1.1
      have h3 := (hv i).2
      have h4 := hlet (i + 1)
      unfold Mod_chain_B81
      dsimp only [lt]
      rw [h2.1, if_neg (nI_pos (by omega)), if_pos (inb_nI (by omega) (by decide)), nI_clamp (by omega), if_pos ((cmM_v (by omega) i).mpr h1.2), show (1 &&& 1 : Int32) = 1 from by decide]
      rw [show zI (cmM (S.2.2.1 t) n M i) 97 (vch (S.2.2.1 t) n (i + 1)) 1 = cmM (S.2.2.1 t) n M (i + 1) from rfl, h4, Option.bind_some, nI_1]) (by
      unfold Mod_chain_B81
      dsimp only [lt]
      cases e : lzO (S.2.2.1 t) (vch (S.2.2.1 t) n m) with
      | none => rw [(lzV_n e).1, if_pos (by decide)]
      | some r =>
        have h3 := lzO_60 hl (hv m).1 e
        rw [(lzV_s e).1, if_neg (nI_pos (by omega)), if_pos (inb_nI (by omega) (by decide)), nI_clamp (by omega), if_neg (fun q => by
          rcases hc.1 with z | ⟨i, hi, z⟩
          · rw [e] at z; cases z
          · rw [e] at z
            exact (cmM_v (by omega) m).mp q i hi (Option.some.inj z))]) (fun q => by cases q) (by omega)
theorem ok_chain {F : Nat} (hF : 3000 < F) (x y z : Int32) : Good (NW_chain F x y z) (Mod_chain F x y z) := by
  cases h1 : inb x 3 with
  | false => exact mkGood0 (fun _ => -1001) (fun S M h => by simp [NW_chain, NW_isTongue_ok, h1, bI]) (fun S M h0 h => by simp [Mod_chain, Mod_isTongue_ok, h1, bI])
  | true =>
    cases h2 : inb y 1000 with
    | false => exact mkGood0 (fun _ => -1001) (fun S M h => by simp [NW_chain, NW_isTongue_ok, NW_isNumber_ok, h1, h2, bI]) (fun S M h0 h => by simp [Mod_chain, Mod_isTongue_ok, Mod_isNumber_ok, h1, h2, bI])
    | true =>
      cases h3 : inb z 3 with
      | false => exact mkGood0 (fun _ => -1002) (fun S M h => by
          unfold NW_chain
          rw [NW_isTongue_ok, h1, Option.bind_some]
          dsimp only
          rw [if_neg (by decide), NW_isNumber_ok, h2, Option.bind_some]
          dsimp only
          rw [if_neg (by decide)]
          by_cases q0 : z < 0
          · rw [if_pos q0]
          · rw [if_neg q0]
            rcases inb_f h3 with q | q
            · exact absurd q q0
            · have q : (3 : Int32) ≤ z := q (by decide)
              rw [if_neg (fun c => by
                rw [Int32.le_iff_toInt_le] at c q
                have e1 : (3 : Int32).toInt = 3 := by decide
                have e2 : (2 : Int32).toInt = 2 := by decide
                omega)]) (fun S M h0 h => by
          unfold Mod_chain
          rw [Mod_isTongue_ok, h1, Option.bind_some]
          dsimp only
          rw [if_neg (by decide), Mod_isNumber_ok, h2, Option.bind_some]
          dsimp only
          rw [if_neg (by decide), Mod_in_ok, in_inb (n := 3) (by decide), h3, Option.bind_some]
          dsimp only
          rw [if_pos (by decide)])
      | true =>
        obtain ⟨t, ht, rfl⟩ := inb_of h1 (by decide)
        obtain ⟨n, hn, rfl⟩ := inb_of h2 (by decide)
        obtain ⟨k, hk, rfl⟩ := inb_of h3 (by decide)
        intro M ⟨S, r1, r2⟩
        have hT := r1.2.2.2.2.2.1 t ht
        obtain ⟨m, hm, hc⟩ := ch_ex (T := S.2.2.1 t) hT.len hn
        obtain ⟨k1, k2, k3⟩ := chainM (F := F) (nI n) (nI k) r1.ok r2 ht hn hm hc hF
        refine ⟨if nI k = 0 then nI (m + 1) else if nI k = 1 then nI (vch (S.2.2.1 t) n m) else lzV (S.2.2.1 t) (vch (S.2.2.1 t) n m), M, cmM (S.2.2.1 t) n M m, ?_, ?_, S, r1.same (fun b hb => cmM_o (by omega) m), r2.keep (fun b h1 h2 => cmM_o (by omega) m)⟩
        · unfold NW_chain
          rw [NW_isTongue_ok, h1, Option.bind_some]
          dsimp only
          rw [if_neg (by decide), NW_isNumber_ok, h2, Option.bind_some]
          dsimp only
          rw [if_neg (by decide), if_neg (nI_pos (by omega)), if_pos (show nI k ≤ (2 : Int32) from nI_le (b := 2) (by omega) (by decide)), if_pos rfl, tgA_n t ht, chainX (nI k) hT hn hm hc hF, Option.bind_some]
          dsimp only
          rw [if_pos rfl]
          unfold NW_chain_J133
          split
          · rfl
          · split <;> rfl
        · unfold Mod_chain
          rw [Mod_isTongue_ok, h1, Option.bind_some]
          dsimp only
          rw [if_neg (by decide), Mod_isNumber_ok, h2, Option.bind_some]
          dsimp only
          rw [if_neg (by decide), Mod_in_ok, in_inb (n := 3) (by decide), h3, Option.bind_some]
          dsimp only
          rw [if_neg (by decide), k1, Option.bind_some]
          dsimp only [lt]
          rw [if_pos rfl, if_pos rfl, nI_clamp (by omega), show (1 &&& 1 : Int32) = 1 from by decide]
          have k2 := k2 0
          have e0 : cmM (S.2.2.1 t) n M 0 = zI (zFill M 97 1000 0) 97 n 1 := rfl
          rw [show vch (S.2.2.1 t) n 0 = n from rfl] at k2
          rw [← e0, k2, Option.bind_some]
          dsimp only
          rw [k3, Option.bind_some]
          dsimp only
          rw [if_pos rfl]
          unfold Mod_chain_J123
          split
          · rfl
          · split <;> rfl

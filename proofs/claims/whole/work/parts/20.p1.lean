/-! ===== the plain part: what the two objects hold, told once ===== -/
/-- a name: its bytes, the clause that made it, how deep it goes -/
abbrev Nm : Type := List Nat × Nat × Nat
/-- a tongue: how many clauses; the names -/
abbrev Tn : Type := Nat × (Nat → Option Nm)
/-- text, fault, tongues, draft -/
abbrev Sp : Type := List Nat × Int32 × (Nat → Tn) × List Nat
def isLt (k : Nat) : Prop := k = 32 ∨ (97 ≤ k ∧ k ≤ 122)
def okW (w : List Nat) : Prop := w.length ≤ 60 ∧ ∀ k ∈ w, isLt k
def runW (w : List Nat) : List Nat := w.filter (fun k => k != 32)
/-- a sign: 1 a blank, 2 and on the letters, 0 the end -/
def sgn (k : Nat) : Nat := if k = 32 then 1 else k - 95
/-- twelve signs of five bits, the first one highest -/
def pkN : List Nat → Nat → Nat
  | _, 0 => 0
  | [], _ + 1 => 0
  | k :: w, j + 1 => sgn k * 32 ^ j + pkN w j
def pk (w : List Nat) (i : Nat) : Int64 := lN (pkN (w.drop (12 * i)) 12)
def named (T : Tn) : List Nat := (List.range 1000).filter (fun n => (T.2 n).isSome)
/-- a name ahead of another: byte by byte, an end ahead -/
def ltW : List Nat → List Nat → Bool
  | _, [] => false
  | [], _ :: _ => true
  | a :: v, b :: w => if a = b then ltW v w else decide (a < b)
def nmW (T : Tn) (n : Nat) : List Nat := match T.2 n with
  | some (w, _, _) => w
  | none => []
/-- n stands ahead of m in ORDER -/
def ahead (T : Tn) (n m : Nat) : Prop := ltW (nmW T n) (nmW T m) = true ∨ (nmW T n = nmW T m ∧ n < m)
def IsOrd (T : Tn) (L : List Nat) : Prop := L.Perm (named T) ∧ L.Pairwise (ahead T)
def twin (T : Tn) (n m : Nat) : Prop := n ≠ m ∧ n < 1000 ∧ m < 1000 ∧ (T.2 n).isSome = true ∧ (T.2 m).isSome = true ∧ runW (nmW T n) = runW (nmW T m)
/-- the first twins, and how many numbers have one -/
def IsTw (T : Tn) (x y c : Int32) : Prop :=
  (∃ cs : List Nat, cs.Nodup ∧ (∀ n, n ∈ cs ↔ ∃ m, twin T n m) ∧ c = nI cs.length) ∧
  ((x = -1 ∧ y = -1 ∧ ∀ n m, ¬ twin T n m) ∨ ∃ n m : Nat, x = nI n ∧ y = nI m ∧ n < m ∧ twin T n m ∧ (∀ n' m', twin T n' m' → n' < m' → m ≤ m') ∧ ∀ n', twin T n' m → n' < m → n ≤ n')
/-- a name as the class holds it, at place n of a tongue's rows -/
def XN (a n : Nat) (q : Option Nm) (M : zM) : Prop := match q with
  | none => M.1 (a + 5) n = -1
  | some (w, b, d) => okW w ∧ b < 12 ∧ 1 ≤ d ∧ d ≤ 8 ∧ M.1 (a + 5) n = nI w.length ∧ M.1 (a + 6) n = nI (runW w).length ∧ M.1 (a + 7) n = nI d ∧ M.1 (a + 8) n = nI b ∧ (∀ i, i < 5 → M.2 (a + 1 + 1) (5 * n + i) = pk w i) ∧ ∀ i, i < 5 → M.2 (a + 3 + 1) (5 * n + i) = pk (runW w) i
def XT (a : Nat) (T : Tn) (M : zM) : Prop :=
  T.1 ≤ 12 ∧ M.1 a 0 = nI T.1 ∧ M.1 a 1 = nI (named T).length ∧ (∀ n, n < 1000 → XN a n (T.2 n) M) ∧
  (M.1 a 9 = 0 ∨ ∃ L, IsOrd T L ∧ ∀ i, i < L.length → M.1 (a + 9) i = nI (L.getD i 0)) ∧
  (M.1 a 10 = 0 ∨ IsTw T (M.1 a 11) (M.1 a 12) (M.1 a 13))
/-- a line as the class holds it -/
def XL (a : Nat) (w : List Nat) (M : zM) : Prop := okW w ∧ M.1 a 1 = nI w.length ∧ ∀ i, i < 5 → M.2 (a + 1) i = pk w i
def RX (S : Sp) (M : zM) : Prop :=
  S.1.length ≤ 240 ∧ (∀ k ∈ S.1, k < 256) ∧ M.1 1 1 = nI S.1.length ∧ (∀ i, i < S.1.length → M.1 2 i = (nI (S.1.getD i 0)).toInt8.toInt32) ∧
  M.1 12 3 = S.2.1 ∧ (∀ t, t < 3 → XT (14 + 10 * t) (S.2.2.1 t) M) ∧ XL 53 S.2.2.2 M ∧ XL 55 (runW S.2.2.2) M
/-- a byte of a name as the reference holds it -/
def mB (M : zM) (at0 i : Nat) : Int32 := ((sr (M.2 75 (8 * at0 + i / 8)) (nI (8 * (i % 8)))) &&& 255).toInt32
def MN (j : Nat) (q : Option Nm) (M : zM) : Prop := match q with
  | none => M.1 74 j = -1 ∧ M.1 76 j = -1 ∧ M.1 77 j = -1
  | some (w, b, d) => M.1 74 j = nI w.length ∧ M.1 76 j = nI d ∧ M.1 77 j = nI b ∧ M.1 78 j = nI (runW w).length ∧ ∀ i, i < w.length → mB M j i = nI (w.getD i 0)
/-- sizes of parts read long ago -/
def Z87 (M : zM) : Prop := ∀ k, k < 96 → ∃ s, s ≤ 12 ∧ M.1 87 k = nI s
theorem Z87.same {M M' : zM} (h : Z87 M) (e : M'.1 87 = M.1 87) : Z87 M' := fun k hk => by rw [e]; exact h k hk
def RM (S : Sp) (M : zM) : Prop :=
  M.1 63 16 = nI S.1.length ∧ (∀ i, i < S.1.length → M.1 79 i = nI (S.1.getD i 0)) ∧ M.1 63 17 = S.2.1 ∧
  (∀ t, t < 3 → M.1 64 t = nI (S.2.2.1 t).1 ∧ ∀ n, n < 1000 → MN (1000 * t + n) ((S.2.2.1 t).2 n) M) ∧
  M.1 63 42 = nI S.2.2.2.length ∧ (∀ i, i < S.2.2.2.length → M.1 95 i = nI (S.2.2.2.getD i 0)) ∧
  (M.1 63 35 = 0 ∨ ∃ t L, t < 3 ∧ M.1 63 36 = nI t ∧ IsOrd (S.2.2.1 t) L ∧ M.1 63 37 = nI L.length ∧ ∀ i, i < L.length → M.1 91 i = nI (L.getD i 0)) ∧ Z87 M
def Inv (M : zM) : Prop := ∃ S, RX S M ∧ RM S M
/-- the same below 63, the same from there on -/
def sameLo (M M' : zM) : Prop := ∀ a, a < 63 → M'.1 a = M.1 a ∧ M'.2 a = M.2 a
def sameHi (M M' : zM) : Prop := ∀ a, 63 ≤ a → M'.1 a = M.1 a ∧ M'.2 a = M.2 a
theorem sameLo.rf {M : zM} : sameLo M M := fun _ _ => ⟨rfl, rfl⟩
theorem sameHi.rf {M : zM} : sameHi M M := fun _ _ => ⟨rfl, rfl⟩
theorem sameLo.tr {M M1 M2 : zM} (h : sameLo M M1) (h2 : sameLo M1 M2) : sameLo M M2 := fun a ha => ⟨(h2 a ha).1.trans (h a ha).1, (h2 a ha).2.trans (h a ha).2⟩
theorem sameHi.tr {M M1 M2 : zM} (h : sameHi M M1) (h2 : sameHi M1 M2) : sameHi M M2 := fun a ha => ⟨(h2 a ha).1.trans (h a ha).1, (h2 a ha).2.trans (h a ha).2⟩
theorem sameLo.zI {M M1 : zM} {a k : Nat} {v : Int32} (h : sameLo M M1) (ha : 63 ≤ a) : sameLo M (zI M1 a k v) := fun b hb => ⟨(zI_other (by omega)).trans (h b hb).1, (h b hb).2⟩
theorem sameLo.zL {M M1 : zM} {a k : Nat} {v : Int64} (h : sameLo M M1) (ha : 63 ≤ a) : sameLo M (zL M1 a k v) := fun b hb => ⟨(h b hb).1, (zL_other (by omega)).trans (h b hb).2⟩
theorem sameHi.zI {M M1 : zM} {a k : Nat} {v : Int32} (h : sameHi M M1) (ha : a < 63) : sameHi M (zI M1 a k v) := fun b hb => ⟨(zI_other (by omega)).trans (h b hb).1, (h b hb).2⟩
theorem sameHi.zL {M M1 : zM} {a k : Nat} {v : Int64} (h : sameHi M M1) (ha : a < 63) : sameHi M (zL M1 a k v) := fun b hb => ⟨(h b hb).1, (zL_other (by omega)).trans (h b hb).2⟩
theorem XN.same {a n : Nat} {q : Option Nm} {M M' : zM} (h : XN a n q M) (hs : ∀ b, a ≤ b → b ≤ a + 9 → M'.1 b = M.1 b ∧ M'.2 b = M.2 b) : XN a n q M' := by
  unfold XN at h ⊢
  rw [(hs (a + 5) (by omega) (by omega)).1, (hs (a + 6) (by omega) (by omega)).1, (hs (a + 7) (by omega) (by omega)).1, (hs (a + 8) (by omega) (by omega)).1, (hs (a + 1 + 1) (by omega) (by omega)).2, (hs (a + 3 + 1) (by omega) (by omega)).2]
  exact h
theorem XT.same {a : Nat} {T : Tn} {M M' : zM} (h : XT a T M) (hs : ∀ b, a ≤ b → b ≤ a + 9 → M'.1 b = M.1 b ∧ M'.2 b = M.2 b) : XT a T M' := by
  obtain ⟨h0, h1, h2, h3, h4, h5⟩ := h
  have ha := (hs a (by omega) (by omega)).1
  have h9 := (hs (a + 9) (by omega) (by omega)).1
  refine ⟨h0, by rw [ha]; exact h1, by rw [ha]; exact h2, fun n hn => (h3 n hn).same hs, ?_, ?_⟩
  · rw [ha, h9]; exact h4
  · rw [ha]; exact h5
theorem XL.same {a : Nat} {w : List Nat} {M M' : zM} (h : XL a w M) (h1 : M'.1 a = M.1 a) (h2 : M'.2 (a + 1) = M.2 (a + 1)) : XL a w M' := by
  unfold XL at h ⊢; rw [h1, h2]; exact h
theorem RX.same {S : Sp} {M M' : zM} (h : RX S M) (hs : sameLo M M') : RX S M' := by
  obtain ⟨h1, h2, h3, h4, h5, h6, h7, h8⟩ := h
  refine ⟨h1, h2, by rw [(hs 1 (by decide)).1]; exact h3, by rw [(hs 2 (by decide)).1]; exact h4, by rw [(hs 12 (by decide)).1]; exact h5, fun t ht => (h6 t ht).same (fun b h1 h2 => hs b (by omega)), h7.same (hs 53 (by decide)).1 (hs 54 (by decide)).2, h8.same (hs 55 (by decide)).1 (hs 56 (by decide)).2⟩
theorem MN.same {j : Nat} {q : Option Nm} {M M' : zM} (h : MN j q M) (hs : ∀ b, 74 ≤ b → b ≤ 78 → M'.1 b = M.1 b ∧ M'.2 b = M.2 b) : MN j q M' := by
  unfold MN mB at h ⊢
  rw [(hs 74 (by omega) (by omega)).1, (hs 76 (by omega) (by omega)).1, (hs 77 (by omega) (by omega)).1, (hs 78 (by omega) (by omega)).1, (hs 75 (by omega) (by omega)).2]
  exact h
theorem RM.same {S : Sp} {M M' : zM} (h : RM S M) (hs : sameHi M M') : RM S M' := by
  obtain ⟨h1, h2, h3, h4, h5, h6, h7⟩ := h
  have e63 := (hs 63 (by decide)).1
  refine ⟨by rw [e63]; exact h1, by rw [(hs 79 (by decide)).1]; exact h2, by rw [e63]; exact h3, fun t ht => ⟨by rw [(hs 64 (by decide)).1]; exact (h4 t ht).1, fun n hn => ((h4 t ht).2 n hn).same (fun b h1 h2 => hs b (by omega))⟩, by rw [e63]; exact h5, by rw [(hs 95 (by decide)).1]; exact h6, ?_, h7.2.same (hs 87 (by decide)).1⟩
  rw [e63, (hs 91 (by decide)).1]; exact h7.1
/-! tests that both sides make -/
def bI (b : Bool) : Int32 := if b = true then 1 else 0
theorem bI_t : bI true = 1 := rfl
theorem bI_f : bI false = 0 := rfl
theorem inb_f {x : Int32} {n : Nat} (h : inb x n = false) : x < 0 ∨ (n < 2 ^ 31 → nI n ≤ x) := by
  by_cases h0 : x < 0
  · exact Or.inl h0
  · refine Or.inr (fun hn => ?_)
    rcases pk_ix x hn with q | q | ⟨j, hj, rfl⟩
    · exact absurd q h0
    · exact q
    · rw [inb_nI hj hn] at h; cases h
theorem inb_of {x : Int32} {n : Nat} (h : inb x n = true) (hn : n < 2 ^ 31) : ∃ j, j < n ∧ x = nI j := vp_in_of (inb_in h) hn
theorem tst_ok {x : Int32} {n : Nat} {N : Int32} (hN : N = nI n) (hn : n < 2 ^ 31) {M : zM} : (if x < 0 then (some ((0 : Int32), M)) else if N ≤ x then some (0, M) else some (1, M)) = some (bI (inb x n), M) := by
  subst hN
  cases h : inb x n with
  | true =>
    obtain ⟨j, hj, rfl⟩ := inb_of h hn
    rw [if_neg (nI_pos (by omega)), if_neg (nI_ge hj hn), bI_t]
  | false =>
    rcases inb_f h with q | q
    · rw [if_pos q, bI_f]
    · by_cases h0 : x < 0
      · rw [if_pos h0, bI_f]
      · rw [if_neg h0, if_pos (q hn), bI_f]
theorem NW_isTongue_ok {F : Nat} {x : Int32} {M : zM} : NW_isTongue F x M = some (bI (inb x 3), M) := tst_ok (N := 3) rfl (by decide)
theorem NW_isNumber_ok {F : Nat} {x : Int32} {M : zM} : NW_isNumber F x M = some (bI (inb x 1000), M) := tst_ok (N := 1000) rfl (by decide)
theorem NW_isLetter_ok {F : Nat} {x : Int32} {M : zM} : NW_isLetter F x M = some (bI (inb x 26), M) := tst_ok (N := 26) rfl (by decide)
theorem bI_and (b : Bool) : bI b &&& 1 = bI b := by cases b <;> decide
theorem cmp_lt {x y : Int64} : lg_cmp x y < 0 ↔ x < y := by
  unfold lg_cmp
  by_cases h1 : y < x
  · have h2 : ¬ x < y := fun q => by rw [Int64.lt_iff_toInt_lt] at h1 q; omega
    simp [h1, h2]
  · by_cases h2 : x = y
    · subst h2; simp [h1]
    · have h3 : x < y := by
        rw [Int64.lt_iff_toInt_lt] at h1 ⊢
        have : x.toInt ≠ y.toInt := fun q => h2 (Int64.toInt_inj.mp q)
        omega
      simp [h1, h2, h3]
theorem cmp_gt {x y : Int64} : 0 < lg_cmp x y ↔ y < x := by
  unfold lg_cmp
  by_cases h1 : y < x
  · simp [h1]
  · by_cases h2 : x = y
    · subst h2; simp [h1]
    · simp [h1, h2]
theorem Mod_in_ok {F : Nat} {x lo hi : Int64} {M : zM} : Mod_in F x lo hi M = some (bI (decide (lo ≤ x ∧ x ≤ hi)), M) := by
  show (if lg_cmp x lo < 0 then some ((0 : Int32), M) else if 0 < lg_cmp x hi then some (0, M) else some (1, M)) = _
  simp only [cmp_lt, cmp_gt]
  by_cases h1 : x < lo
  · rw [if_pos h1, decide_eq_false (fun q => by have := q.1; rw [Int64.le_iff_toInt_le] at this; rw [Int64.lt_iff_toInt_lt] at h1; omega), bI_f]
  · rw [if_neg h1]
    by_cases h2 : hi < x
    · rw [if_pos h2, decide_eq_false (fun q => by have := q.2; rw [Int64.le_iff_toInt_le] at this; rw [Int64.lt_iff_toInt_lt] at h2; omega), bI_f]
    · rw [if_neg h2, decide_eq_true (⟨by rw [Int64.lt_iff_toInt_lt] at h1; rw [Int64.le_iff_toInt_le]; omega, by rw [Int64.lt_iff_toInt_lt] at h2; rw [Int64.le_iff_toInt_le]; omega⟩), bI_t]
theorem in_inb {x : Int32} {n : Nat} {hi : Int64} (hh : hi.toInt = (n : Int) - 1) : decide ((0 : Int64) ≤ x.toInt64 ∧ x.toInt64 ≤ hi) = inb x n := by
  unfold inb
  have e : x.toInt64.toInt = x.toInt := by simp
  rw [decide_eq_decide, Int64.le_iff_toInt_le, Int64.le_iff_toInt_le, e, hh]
  have e0 : (0 : Int64).toInt = 0 := by decide
  rw [e0]
  omega
theorem Mod_isTongue_ok {F : Nat} {x : Int32} {M : zM} : Mod_isTongue F x M = some (bI (inb x 3), M) := by
  unfold Mod_isTongue
  rw [Mod_in_ok, in_inb (n := 3) (by decide)]
  exact if_pos (bI_and _)
theorem Mod_isNumber_ok {F : Nat} {x : Int32} {M : zM} : Mod_isNumber F x M = some (bI (inb x 1000), M) := by
  unfold Mod_isNumber
  rw [Mod_in_ok, in_inb (n := 1000) (by decide)]
  exact if_pos (bI_and _)

/-! square, squares -/
def allN (p : Nat → Bool) : Nat → Bool
  | 0 => true
  | i + 1 => allN p i && p i
theorem allN_iff (p : Nat → Bool) : ∀ n, allN p n = true ↔ ∀ i, i < n → p i = true := by
  intro n
  induction n with
  | zero => exact ⟨fun _ i hi => by omega, fun _ => rfl⟩
  | succ n ih =>
    show (allN p n && p n) = true ↔ _
    rw [Bool.and_eq_true, ih]
    constructor
    · intro h i hi
      by_cases c : i = n
      · rw [c]; exact h.2
      · exact h.1 i (by omega)
    · intro h
      exact ⟨fun i hi => h i (by omega), h n (by omega)⟩
theorem all_loopX {body : Int32 × zM → Option (Nat × (Int32 × zM))} {p : Nat → Bool} {ix : Nat → Int32} {N F : Nat} {M : zM} (hN : N ≤ 1000) (h1 : ∀ i, i < N → body (ix i, M) = if p i = true then some (0, ix (i + 1), M) else some (1, 0, M)) (h2 : body (ix N, M) = some (2, 0, M)) (hF : 3000 < F) : loopN body F (ix 0, M) = some (if allN p N = true then 2 else 1, 0, M) := by
  have key := loopN_inv (body := body) (I := fun i s => s = (ix i, M) ∧ allN p i = true) (Qx := fun q => q = (if allN p N = true then 2 else 1, 0, M)) (N := N) (F := F) (s := (ix 0, M)) (fun i s hi hs => by
    obtain ⟨rfl, ha⟩ := hs
    rw [h1 i hi]
    by_cases c : p i = true
    · rw [if_pos c]
      exact Or.inl ⟨_, rfl, rfl, by show (allN p i && p i) = true; rw [ha, c]; rfl⟩
    · rw [if_neg c]
      refine Or.inr ⟨_, rfl, (fun q => by cases q), ?_⟩
      rw [if_neg (fun q => c ((allN_iff p N).mp q i hi))]) (fun s hs => by
    obtain ⟨rfl, ha⟩ := hs
    refine ⟨_, h2, (fun q => by cases q), ?_⟩
    rw [if_pos ha]) (by omega) ⟨rfl, rfl⟩
  obtain ⟨q, e, rfl⟩ := key
  exact e
theorem all_loopM {body : Int32 × Int32 × zM → Option (Nat × (Int32 × Int32 × zM))} {p : Nat → Bool} {b : Bool} {a N F : Nat} {M : zM} (hN : N ≤ 1000) (ha : a ≤ N) (h1 : ∀ i, a ≤ i → i < N → body (1, nI i, M) = if p i = true then some (0, 1, nI (i + 1), M) else some (0, 0, nI (i + 1), M)) (h0 : ∀ i, a ≤ i → i < N → body (0, nI i, M) = some (0, 0, nI (i + 1), M)) (h2 : ∀ x, body (x, nI N, M) = some (1, x, 0, M)) (hF : 3000 < F) : loopN body F (bI b, nI a, M) = some (1, bI (b && allN (fun j => p (a + j)) (N - a)), 0, M) := by
  have key := loopN_seq (body := body) (N - a) (fun i => (bI (b && allN (fun j => p (a + j)) i), nI (a + i), M)) (1, bI (b && allN (fun j => p (a + j)) (N - a)), 0, M) F (fun i hi => by
    show body (bI (b && allN (fun j => p (a + j)) i), nI (a + i), M) = some (0, bI (b && (allN (fun j => p (a + j)) i && p (a + i))), nI (a + i + 1), M)
    cases e : (b && allN (fun j => p (a + j)) i) with
    | true =>
      rw [← Bool.and_assoc, e, bI_t, h1 _ (by omega) (by omega)]
      cases p (a + i) <;> rfl
    | false =>
      rw [← Bool.and_assoc, e, bI_f, h0 _ (by omega) (by omega)]
      rfl) (by
    show body (_, nI (a + (N - a)), M) = _
    rw [show a + (N - a) = N by omega, h2]) (fun q => by cases q) (by omega)
  have key : loopN body F (bI (b && true), nI (a + 0), M) = _ := key
  rw [Bool.and_true, Nat.add_zero] at key
  exact key
def sqV (a b c : Int32) : Nat → Int32
  | 0 => a + b
  | 1 => a - b - c
  | 2 => a + c
  | 3 => a - b + c
  | 4 => a
  | 5 => a + b - c
  | 6 => a - c
  | 7 => a + b + c
  | _ => a - b
def wr9 (M : zM) (c : Nat) (v : Nat → Int32) : Nat → zM
  | 0 => M
  | i + 1 => zI (wr9 M c v i) c i (v i)
theorem wr9_2 {M : zM} {c : Nat} {v : Nat → Int32} : ∀ i, (wr9 M c v i).2 = M.2 := by
  intro i
  induction i with
  | zero => rfl
  | succ i ih => exact ih
theorem wr9_o {M : zM} {c b : Nat} {v : Nat → Int32} (h : b ≠ c) : ∀ i, (wr9 M c v i).1 b = M.1 b := by
  intro i
  induction i with
  | zero => rfl
  | succ i ih => exact (zI_other h).trans ih
theorem wr9_v {M : zM} {c : Nat} {v : Nat → Int32} : ∀ i j, j < i → (wr9 M c v i).1 c j = v j := by
  intro i
  induction i with
  | zero => intro j hj; omega
  | succ i ih =>
    intro j hj
    show (zI (wr9 M c v i) c i (v i)).1 c j = v j
    by_cases e : j = i
    · rw [e, zI_in]
    · rw [zI_ne (Or.inr e)]; exact ih j (by omega)
theorem lay_ok {F : Nat} {a b c : Int32} {M : zM} (hF : 3000 < F) : Squ_lay F a b c M = some (bI (allN (fun i => inb (sqV a b c i) 1000) 9), wr9 M 62 (sqV a b c) 9) := by
  have key := all_loopX (body := Squ_lay_B93 F) (p := fun i => inb (sqV a b c i) 1000) (ix := nI) (N := 9) (F := F) (M := wr9 M 62 (sqV a b c) 9) (by decide) (fun i hi => by
    unfold Squ_lay_B93
    dsimp only [lt]
    rw [if_neg (show ¬ (9 : Int32) ≤ nI i from nI_ge (b := 9) hi (by decide)), if_pos (inb_nI hi (by decide)), nI_clamp (by omega), wr9_v 9 i hi, nI_1]
    cases e : inb (sqV a b c i) 1000 with
    | true =>
      obtain ⟨j, hj, e⟩ := inb_of e (by decide)
      rw [e, if_neg (nI_pos (by omega)), if_pos (show nI j < (1000 : Int32) from nI_lt (b := 1000) hj (by decide)), if_pos rfl]
    | false =>
      rw [if_neg (show ¬ false = true by decide)]
      by_cases q0 : sqV a b c i < 0
      · rw [if_pos q0]
      · rw [if_neg q0]
        rcases inb_f e with q | q
        · exact absurd q q0
        · have q : (1000 : Int32) ≤ sqV a b c i := q (by decide)
          rw [if_neg (fun z => by rw [Int32.lt_iff_toInt_lt] at z; rw [Int32.le_iff_toInt_le] at q; omega)]) (by
    unfold Squ_lay_B93
    exact if_pos (by decide)) hF
  have key : loopN (Squ_lay_B93 F) F (0, wr9 M 62 (sqV a b c) 9) = _ := key
  unfold Squ_lay
  dsimp only [lt]
  rw [if_pos (show inb 0 9 = true from rfl), if_pos (show inb 1 9 = true from rfl), if_pos (show inb 2 9 = true from rfl), if_pos (show inb 3 9 = true from rfl), if_pos (show inb 4 9 = true from rfl), if_pos (show inb 5 9 = true from rfl), if_pos (show inb 6 9 = true from rfl), if_pos (show inb 7 9 = true from rfl), if_pos (show inb 8 9 = true from rfl)]
  show (loopN (Squ_lay_B93 F) F (0, wr9 M 62 (sqV a b c) 9)).bind _ = _
  rw [key, Option.bind_some]
  cases allN (fun i => inb (sqV a b c i) 1000) 9 <;> rfl
theorem nine_ok {F : Nat} {a b c : Int32} {M : zM} (hF : 3000 < F) : Mod_findNine F a b c M = some (bI (allN (fun i => inb (sqV a b c i) 1000) 9), wr9 M 98 (sqV a b c) 9) := by
  have key := all_loopM (body := Mod_findNine_B96 F) (p := fun i => inb (sqV a b c i) 1000) (b := true) (a := 0) (N := 9) (F := F) (M := wr9 M 98 (sqV a b c) 9) (by decide) (by decide) (fun i _ hi => by
    unfold Mod_findNine_B96
    dsimp only [lt]
    rw [if_neg (show ¬ (9 : Int32) ≤ nI i from nI_ge (b := 9) hi (by decide)), if_neg (by decide), if_pos (inb_nI hi (by decide)), nI_clamp (by omega), wr9_v 9 i hi, nI_1, Mod_isNumber_ok, Option.bind_some]
    cases inb (sqV a b c i) 1000 <;> rfl) (fun i _ hi => by
    unfold Mod_findNine_B96
    dsimp only [lt]
    rw [if_neg (show ¬ (9 : Int32) ≤ nI i from nI_ge (b := 9) hi (by decide)), if_pos rfl, nI_1]) (fun x => by
    unfold Mod_findNine_B96
    exact if_pos (by decide)) hF
  have key : loopN (Mod_findNine_B96 F) F (1, 0, wr9 M 98 (sqV a b c) 9) = _ := key
  unfold Mod_findNine
  dsimp only [lt]
  rw [if_pos (show inb 0 9 = true from rfl), if_pos (show inb 1 9 = true from rfl), if_pos (show inb 2 9 = true from rfl), if_pos (show inb 3 9 = true from rfl), if_pos (show inb 4 9 = true from rfl), if_pos (show inb 5 9 = true from rfl), if_pos (show inb 6 9 = true from rfl), if_pos (show inb 7 9 = true from rfl), if_pos (show inb 8 9 = true from rfl)]
  show (loopN (Mod_findNine_B96 F) F (1, 0, wr9 M 98 (sqV a b c) 9)).bind _ = _
  rw [key, Option.bind_some]
  dsimp only
  rw [if_pos rfl, bI_and, if_pos rfl]
  simp

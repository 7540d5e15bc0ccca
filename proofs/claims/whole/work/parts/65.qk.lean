theorem drop_cX {v : List Nat} {i : Nat} (h : i < v.length) : v.drop i = v.getD i 256 :: v.drop (i + 1) := by
  rw [List.drop_eq_getElem_cons h, List.getD_eq_getElem?_getD, List.getElem?_eq_getElem h]; rfl
/-! what a text tells, plainly -/
def wh (q : Nat → Bool) (w : List Nat) (p : Nat) : Nat := p + ((w.drop p).takeWhile q).length
def gB (w : List Nat) (p : Nat) : Nat := w.getD p 256
theorem wh_st {q : Nat → Bool} {w : List Nat} {p : Nat} (h : p < w.length) (hq : q (gB w p) = true) : wh q w p = wh q w (p + 1) := by
  unfold wh
  unfold gB at hq
  rw [drop_cX h, List.takeWhile_cons, if_pos hq, List.length_cons]
  omega
theorem wh_no {q : Nat → Bool} {w : List Nat} {p : Nat} (hq : p < w.length → q (gB w p) = false) : wh q w p = p := by
  unfold wh
  by_cases h : p < w.length
  · have hq := hq h
    unfold gB at hq
    rw [drop_cX h, List.takeWhile_cons, if_neg (by rw [hq]; decide)]; rfl
  · rw [List.drop_eq_nil_of_le (by omega)]; rfl
theorem wh_all {q : Nat → Bool} {w : List Nat} : ∀ k p, w.length - p = k → p ≤ w.length → p ≤ wh q w p ∧ wh q w p ≤ w.length ∧ (∀ i, p ≤ i → i < wh q w p → q (gB w i) = true) ∧ (wh q w p < w.length → q (gB w (wh q w p)) = false) := by
  intro k
  induction k with
  | zero =>
    intro p hk hp
    have e : wh q w p = p := wh_no (fun h => by omega)
    rw [e]
    exact ⟨Nat.le_refl _, hp, fun i h1 h2 => by omega, fun h => by omega⟩
  | succ k ih =>
    intro p hk hp
    by_cases c : q (gB w p) = true
    · obtain ⟨h1, h2, h3, h4⟩ := ih (p + 1) (by omega) (by omega)
      rw [wh_st (by omega) c]
      refine ⟨by omega, h2, fun i a b => ?_, h4⟩
      by_cases e : i = p
      · rw [e]; exact c
      · exact h3 i (by omega) b
    · have e : wh q w p = p := wh_no (fun _ => by simpa using c)
      rw [e]
      exact ⟨Nat.le_refl _, hp, fun i h1 h2 => by omega, fun _ => by simpa using c⟩
theorem wh_sp (q : Nat → Bool) {w : List Nat} {p : Nat} (h : p ≤ w.length) : p ≤ wh q w p ∧ wh q w p ≤ w.length ∧ (∀ i, p ≤ i → i < wh q w p → q (gB w i) = true) ∧ (wh q w p < w.length → q (gB w (wh q w p)) = false) := wh_all _ p rfl h
abbrev Prt : Type := Nat × Bool × List Nat
abbrev Cls : Type := Nat × Nat × Nat × List Prt
def qB (k : Nat) : Bool := decide (k = 32)
def qD (k : Nat) : Bool := decide (48 ≤ k ∧ k ≤ 57)
def qL (k : Nat) : Bool := decide (97 ≤ k ∧ k ≤ 122)
def skB (w : List Nat) (p : Nat) : Nat := wh qB w p
def enD (w : List Nat) (p : Nat) : Nat := wh qD w p
def enL (w : List Nat) (p : Nat) : Nat := wh qL w p
def dgV (w : List Nat) (s : Nat) : Nat → Nat
  | 0 => 0
  | j + 1 => dgV w s j * 10 + (gB w (s + j) - 48)
def rng (w : List Nat) (s e : Nat) : List Nat := (w.drop s).take (e - s)
abbrev Flt : Type := Nat × Nat
def numS (w : List Nat) (lo hi p : Nat) : Flt ⊕ (Nat × Nat) :=
  if enD w (skB w p) = skB w p then .inl (1, skB w p)
  else if 3 < enD w (skB w p) - skB w p ∨ dgV w (skB w p) (enD w (skB w p) - skB w p) < lo ∨ hi < dgV w (skB w p) (enD w (skB w p) - skB w p) then .inl (2, skB w p)
  else .inr (enD w (skB w p), dgV w (skB w p) (enD w (skB w p) - skB w p))
def isW (kw w : List Nat) (s : Nat) : Bool := decide (rng w s (enL w s) = kw)
def kwS (w kw : List Nat) (p : Nat) : Flt ⊕ Nat := if isW kw w (skB w p) = true then .inr (skB w p + kw.length) else .inl (1, skB w p)
def letS (w : List Nat) (p : Nat) : Flt ⊕ (Nat × List Nat) :=
  if enL w p = p then .inl (1, p) else if 12 < enL w p - p then .inl (4, p + 12) else .inr (enL w p, rng w p (enL w p))
def sgS (w : List Nat) (c p : Nat) : Flt ⊕ Nat := if gB w (skB w p) = c then .inr (skB w p + 1) else .inl (1, skB w p)
def isK (k : Nat) : Bool := decide (k = 113 ∨ k = 116 ∨ k = 114 ∨ k = 99 ∨ k = 110)
def prtS (w : List Nat) (p : Nat) (br : Bool) (n : Nat) : Flt ⊕ (Nat × Prt) :=
  if gB w p = 35 ∨ (97 ≤ gB w p ∧ gB w p ≤ 122) then
    if 8 ≤ n then .inl (6, p)
    else if gB w p = 35 then (if isK (gB w (p + 1)) = true then .inr (p + 2, gB w (p + 1), br, []) else .inl (1, p + 1))
    else match letS w p with
      | .inl f => .inl f
      | .inr (e, l) => .inr (e, 0, br, l)
  else .inl (1, p)
def parS (w : List Nat) : Nat → Nat → Option Nat → List Prt → Flt ⊕ (Nat × List Prt)
  | 0, _, _, _ => .inl (0, 0)
  | f + 1, p, o, ps =>
    if gB w (skB w p) = 59 ∧ o = none ∧ 0 < ps.length then .inr (skB w p + 1, ps)
    else if gB w (skB w p) = 91 ∧ o = none then parS w f (skB w p + 1) (some ps.length) ps
    else if gB w (skB w p) = 93 ∧ o ≠ none ∧ o.getD 0 < ps.length then parS w f (skB w p + 1) none ps
    else match prtS w (skB w p) o.isSome ps.length with
      | .inl e => .inl e
      | .inr (p', q) => parS w f p' o (ps ++ [q])
def headS (w : List Nat) (p : Nat) : Flt ⊕ (Nat × Nat × Nat × Nat) :=
  match numS w 0 999 p with
  | .inl f => .inl f
  | .inr (p1, a) => match kwS w [116, 111] p1 with
    | .inl f => .inl f
    | .inr p2 => match numS w a 999 p2 with
      | .inl f => .inl f
      | .inr (p3, b) => match kwS w [98, 121] p3 with
        | .inl f => .inl f
        | .inr p4 => match numS w 2 500 p4 with
          | .inl f => .inl f
          | .inr (p5, u) => match sgS w 58 p5 with
            | .inl f => .inl f
            | .inr p6 => .inr (p6, a, b, u)
def hasW (C : List Cls) (n : Nat) : Bool := C.any (fun c => decide (c.2.2.1 = 0) && decide (c.1 = n))
def wrdS (w : List Nat) (C : List Cls) (p : Nat) : Flt ⊕ (Nat × Cls) :=
  match numS w 0 999 p with
  | .inl f => .inl f
  | .inr (p1, n) => if hasW C n = true then .inl (3, skB w p) else match letS w (skB w p1) with
    | .inl f => .inl f
    | .inr (p2, l) => match sgS w 59 p2 with
      | .inl f => .inl f
      | .inr p3 => .inr (p3, n, n, 0, [(0, false, l)])
def frmS (w : List Nat) (p : Nat) : Flt ⊕ (Nat × Cls) :=
  match headS w p with
  | .inl f => .inl f
  | .inr (p1, a, b, u) => match parS w 241 p1 none [] with
    | .inl f => .inl f
    | .inr (p2, ps) => .inr (p2, a, b, u, ps)
def clS (w : List Nat) (C : List Cls) (p : Nat) : Flt ⊕ (Nat × Cls) :=
  if isW [119, 111, 114, 100] w p = true then (if C.length = 12 then .inl (5, p) else wrdS w C (p + 4))
  else if isW [102, 111, 114] w p = true then (if C.length = 12 then .inl (5, p) else frmS w (p + 3))
  else .inl (1, p)
def txS (w : List Nat) : Nat → Nat → List Cls → Flt ⊕ List Cls
  | 0, _, _ => .inl (0, 0)
  | f + 1, p, C => if skB w p = w.length then .inr C else match clS w C (skB w p) with
    | .inl e => .inl e
    | .inr (p', c) => txS w f p' (C ++ [c])
theorem rng_len {w : List Nat} {s e : Nat} (h1 : s ≤ e) (h2 : e ≤ w.length) : (rng w s e).length = e - s := by
  unfold rng; rw [List.length_take, List.length_drop]; omega
theorem rng_get {w : List Nat} {s e j : Nat} (h : j < e - s) : (rng w s e).getD j 0 = w.getD (s + j) 0 := by
  unfold rng
  rw [List.getD_eq_getElem?_getD, List.getElem?_take_of_lt h, List.getElem?_drop, List.getD_eq_getElem?_getD]
theorem gB_in {w : List Nat} {p : Nat} (h : p < w.length) : w.getD p 0 = gB w p := by
  unfold gB
  rw [List.getD_eq_getElem?_getD, List.getD_eq_getElem?_getD, List.getElem?_eq_getElem h]; rfl
theorem gB_out {w : List Nat} {p : Nat} (h : w.length ≤ p) : gB w p = 256 := by
  unfold gB
  rw [List.getD_eq_getElem?_getD, List.getElem?_eq_none h]; rfl

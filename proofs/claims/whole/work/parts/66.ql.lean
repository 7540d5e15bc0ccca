/-! the class reads: text -/
def okB (w : List Nat) : Prop := w.length ≤ 240 ∧ ∀ k ∈ w, k < 256
theorem gB_lt {w : List Nat} (h : okB w) {p : Nat} (hp : p < w.length) : gB w p < 256 := by
  rw [← gB_in hp]; exact h.2 _ (getD_mem hp)
theorem gB_in2 {w : List Nat} {p c : Nat} (h : gB w p = c) (hc : c < 256) : p < w.length := by
  rcases Nat.lt_or_ge p w.length with q | q
  · exact q
  · rw [gB_out q] at h; omega
theorem numS_le {w : List Nat} {lo hi p e v : Nat} (hp : p ≤ w.length) (h : numS w lo hi p = .inr (e, v)) : p < e ∧ e ≤ w.length ∧ lo ≤ v ∧ v ≤ hi := by
  unfold numS at h
  have a1 := wh_sp qB hp
  have a2 := wh_sp qD (show skB w p ≤ w.length from a1.2.1)
  have b1 : p ≤ skB w p := a1.1
  have b2 : skB w p ≤ enD w (skB w p) := a2.1
  have b3 : enD w (skB w p) ≤ w.length := a2.2.1
  by_cases c1 : enD w (skB w p) = skB w p
  · rw [if_pos c1] at h; cases h
  · rw [if_neg c1] at h
    by_cases c2 : 3 < enD w (skB w p) - skB w p ∨ dgV w (skB w p) (enD w (skB w p) - skB w p) < lo ∨ hi < dgV w (skB w p) (enD w (skB w p) - skB w p)
    · rw [if_pos c2] at h; cases h
    · rw [if_neg c2] at h
      injection h with h
      injection h with h1 h2
      omega
theorem isW_len {kw w : List Nat} {s : Nat} (hs : s ≤ w.length) (h : isW kw w s = true) : enL w s = s + kw.length := by
  have a := wh_sp qL hs
  have a1 : s ≤ enL w s := a.1
  have a2 : enL w s ≤ w.length := a.2.1
  have h := of_decide_eq_true h
  rw [← h, rng_len a1 a2]; omega
theorem kwS_le {w kw : List Nat} {p p' : Nat} (hp : p ≤ w.length) (h : kwS w kw p = .inr p') : p ≤ p' ∧ p' ≤ w.length := by
  unfold kwS at h
  have a1 := wh_sp qB hp
  have b1 : p ≤ skB w p := a1.1
  have b2 : skB w p ≤ w.length := a1.2.1
  by_cases c : isW kw w (skB w p) = true
  · rw [if_pos c] at h
    injection h with h
    have e := isW_len b2 c
    have : enL w (skB w p) ≤ w.length := (wh_sp qL b2).2.1
    omega
  · rw [if_neg c] at h; cases h
theorem letS_le {w : List Nat} {p e : Nat} {l : List Nat} (hp : p ≤ w.length) (h : letS w p = .inr (e, l)) : p < e ∧ e ≤ w.length ∧ l.length = e - p ∧ l.length ≤ 12 ∧ ∀ k ∈ l, 97 ≤ k ∧ k ≤ 122 := by
  unfold letS at h
  have a := wh_sp qL hp
  have a1 : p ≤ enL w p := a.1
  have a2 : enL w p ≤ w.length := a.2.1
  by_cases c1 : enL w p = p
  · rw [if_pos c1] at h; cases h
  · rw [if_neg c1] at h
    by_cases c2 : 12 < enL w p - p
    · rw [if_pos c2] at h; cases h
    · rw [if_neg c2] at h
      injection h with h
      injection h with h1 h2
      have hl := rng_len a1 a2
      rw [h2] at hl
      refine ⟨by omega, by omega, by omega, by omega, fun k hk => ?_⟩
      obtain ⟨i, hi, rfl⟩ := List.mem_iff_getElem.mp hk
      rw [← getD_g hi, ← h2, rng_get (by omega), gB_in (by omega)]
      have := a.2.2.1 (p + i) (by omega) (by show p + i < enL w p; omega)
      exact of_decide_eq_true this
theorem sgS_le {w : List Nat} {c p p' : Nat} (hc : c < 256) (hp : p ≤ w.length) (h : sgS w c p = .inr p') : p < p' ∧ p' ≤ w.length := by
  unfold sgS at h
  have a1 := wh_sp qB hp
  have b1 : p ≤ skB w p := a1.1
  by_cases q : gB w (skB w p) = c
  · rw [if_pos q] at h
    injection h with h
    have := gB_in2 q hc
    omega
  · rw [if_neg q] at h; cases h
def okP (q : Prt) : Prop := (q.1 = 0 ∧ 0 < q.2.2.length ∧ q.2.2.length ≤ 12 ∧ ∀ k ∈ q.2.2, 97 ≤ k ∧ k ≤ 122) ∨ (isK q.1 = true ∧ q.2.2 = [])
theorem isK_lt {k : Nat} (h : isK k = true) : k < 256 ∧ k ≠ 0 := by
  have := of_decide_eq_true h; omega
theorem prtS_le {w : List Nat} {p n e : Nat} {br : Bool} {q : Prt} (hp : p ≤ w.length) (h : prtS w p br n = .inr (e, q)) : p < e ∧ e ≤ w.length ∧ okP q ∧ q.2.1 = br ∧ n < 8 := by
  unfold prtS at h
  by_cases c1 : gB w p = 35 ∨ (97 ≤ gB w p ∧ gB w p ≤ 122)
  · rw [if_pos c1] at h
    by_cases c2 : 8 ≤ n
    · rw [if_pos c2] at h; cases h
    · rw [if_neg c2] at h
      by_cases c3 : gB w p = 35
      · rw [if_pos c3] at h
        by_cases c4 : isK (gB w (p + 1)) = true
        · rw [if_pos c4] at h
          injection h with h
          injection h with h1 h2
          have := gB_in2 (w := w) (p := p + 1) rfl (isK_lt c4).1
          rw [← h2]
          exact ⟨by omega, by omega, Or.inr ⟨c4, rfl⟩, rfl, by omega⟩
        · rw [if_neg c4] at h; cases h
      · rw [if_neg c3] at h
        cases e1 : letS w p with
        | inl f => rw [e1] at h; cases h
        | inr z =>
          obtain ⟨e', l⟩ := z
          rw [e1] at h
          injection h with h
          injection h with h1 h2
          have := letS_le hp e1
          rw [← h2]
          exact ⟨by omega, by omega, Or.inl ⟨rfl, by show 0 < l.length; omega, this.2.2.2.1, this.2.2.2.2⟩, rfl, by omega⟩
  · rw [if_neg c1] at h; cases h
def sgd (k : Nat) : Int32 := (nI k).toInt8.toInt32
theorem sg_and : ∀ k, k < 256 → sgd k &&& 255 = nI k := by decide +kernel
theorem sg_B : ∀ k, k < 256 → (sgd k = 32 ↔ qB k = true) := by decide +kernel
theorem sg_D : ∀ k, k < 256 → ((sgd k < 48 ∨ 57 < sgd k) ↔ qD k = false) := by decide +kernel
theorem sg_L : ∀ k, k < 256 → ((sgd k < 97 ∨ 122 < sgd k) ↔ qL k = false) := by decide +kernel
def TX (w : List Nat) (M : zM) : Prop := M.1 1 1 = nI w.length ∧ ∀ i, i < w.length → M.1 2 i = sgd (w.getD i 0)
def mv (M : zM) (p : Nat) : zM := zI M 1 2 (nI p)
theorem zI_zI {M : zM} {a k : Nat} {v v' : Int32} : zI (zI M a k v) a k v' = zI M a k v' := by
  unfold zI va_up upd
  refine Prod.ext (funext fun b => ?_) rfl
  by_cases c : b = a
  · subst c
    simp only [if_true]
    funext j
    by_cases d : j = k
    · simp [d]
    · simp [d]
  · simp [c]
theorem zI_self {M : zM} {a k : Nat} {v : Int32} (h : M.1 a k = v) : zI M a k v = M := by
  subst h
  unfold zI va_up upd
  refine Prod.ext (funext fun b => ?_) rfl
  by_cases c : b = a
  · subst c
    simp only [if_true]
    funext j
    by_cases d : j = k
    · simp [d]
    · simp [d]
  · simp [c]
theorem mv_p {M : zM} {p : Nat} : (mv M p).1 1 2 = nI p := zI_in
theorem mv_1 {M : zM} {p k : Nat} (h : k ≠ 2) : (mv M p).1 1 k = M.1 1 k := zI_ne (Or.inr h)
theorem mv_o {M : zM} {p b : Nat} (h : b ≠ 1) : (mv M p).1 b = M.1 b := zI_other h
theorem mv_m {M : zM} {p q : Nat} : zI (mv M p) 1 2 (nI q) = mv M q := zI_zI
theorem sk_ok {F p : Nat} {w : List Nat} {M : zM} (hB : okB w) (hT : TX w M) (hp : p ≤ w.length) (hF : 3000 < F) : Tex_skipBlanks F (mv M p) = some ((), mv M (skB w p)) := by
  have h240 := hB.1
  have key := loopN_inv (body := Tex_skipBlanks_B0 F) (I := fun i s => s = mv M (p + i) ∧ p + i ≤ w.length ∧ skB w (p + i) = skB w p) (Qx := fun q => q = (1, mv M (skB w p))) (N := w.length - p) (F := F) (s := mv M p) (fun i s hi hs => by
    obtain ⟨rfl, h1, h2⟩ := hs
    have hlt : p + i < w.length := by omega
    have hb := gB_lt hB hlt
    unfold Tex_skipBlanks_B0
    dsimp only [lt]
    rw [mv_1 (by decide), mv_p, hT.1, if_neg (nI_ge hlt (by omega)), if_pos (inb_nI (by omega) (by decide)), nI_clamp (by omega), mv_o (by decide), hT.2 _ hlt, gB_in hlt]
    by_cases c : qB (gB w (p + i)) = true
    · rw [if_pos ((sg_B _ hb).mpr c), nI_1]
      refine Or.inl ⟨_, rfl, mv_m, by omega, ?_⟩
      rw [← h2]
      exact (wh_st hlt c).symm
    · rw [if_neg (fun q => c ((sg_B _ hb).mp q))]
      refine Or.inr ⟨_, rfl, (fun q => by cases q), ?_⟩
      rw [← h2]
      show _ = (1, mv M (wh qB w (p + i)))
      rw [wh_no (fun _ => by simpa using c)]) (fun s hs => by
    obtain ⟨rfl, h1, h2⟩ := hs
    refine ⟨_, ?_, (fun q => by cases q), rfl⟩
    unfold Tex_skipBlanks_B0
    rw [mv_1 (by decide), mv_p, hT.1, if_pos (nI_le (by omega) (by omega)), ← h2]
    show _ = some (1, mv M (wh qB w (p + (w.length - p))))
    rw [wh_no (fun q => by omega)]) (by omega) ⟨rfl, hp, rfl⟩
  obtain ⟨q, e, rfl⟩ := key
  unfold Tex_skipBlanks
  rw [e, Option.bind_some]
  rfl
def cI (w : List Nat) (p : Nat) : Int32 := if p < w.length then nI (gB w p) else -1
theorem byte_ok {F i : Nat} {w : List Nat} {M : zM} (hB : okB w) (hT : TX w M) (hi : i < 1000) : Tex_byteAt F (nI i) M = some (cI w i, M) := by
  have h240 := hB.1
  unfold Tex_byteAt cI
  rw [if_neg (nI_pos (by omega)), hT.1]
  by_cases c : i < w.length
  · rw [if_neg (nI_ge c (by omega)), if_pos (inb_nI (by omega) (by decide)), nI_clamp (by omega), hT.2 i c, gB_in c, sg_and _ (gB_lt hB c), if_pos c]
  · rw [if_pos (nI_le (by omega) (by omega)), if_neg c]
theorem TX.mv {w : List Nat} {M : zM} {p : Nat} (h : TX w M) : TX w (mv M p) := ⟨(mv_1 (by decide)).trans h.1, fun i hi => by rw [mv_o (by decide)]; exact h.2 i hi⟩
theorem cur_ok {F p : Nat} {w : List Nat} {M : zM} (hB : okB w) (hT : TX w M) (hp : p ≤ w.length) : Tex_current F (mv M p) = some (cI w p, mv M p) := by
  have h240 := hB.1
  unfold Tex_current
  rw [mv_p, byte_ok hB hT.mv (by omega), Option.bind_some]
theorem cI_eq {w : List Nat} (hB : okB w) {p c : Nat} (hc : c < 256) : cI w p = nI c ↔ gB w p = c := by
  unfold cI
  by_cases h : p < w.length
  · rw [if_pos h]
    exact nI_eq (by have := gB_lt hB h; omega) (by omega)
  · rw [if_neg h, gB_out (by omega)]
    constructor
    · intro q; exact absurd q.symm (nlen_ne (by omega))
    · intro q; omega
theorem end_ok {F p : Nat} {q : Nat → Bool} {lo hi : Int32} {w : List Nat} {M : zM} (hB : okB w) (hT : TX w M) (hp : p ≤ w.length) (hq : ∀ k, k < 256 → ((sgd k < lo ∨ hi < sgd k) ↔ q k = false)) (hF : 3000 < F) : Tex_endOf F lo hi (mv M p) = some (nI (wh q w p), mv M p) := by
  have h240 := hB.1
  have key := loopN_inv (body := Tex_endOf_B5 F lo hi) (I := fun i s => s = (nI (p + i), mv M p) ∧ p + i ≤ w.length ∧ wh q w (p + i) = wh q w p) (Qx := fun z => z = (1, nI (wh q w p), mv M p)) (N := w.length - p) (F := F) (s := (nI p, mv M p)) (fun i s hi' hs => by
    obtain ⟨rfl, h1, h2⟩ := hs
    have hlt : p + i < w.length := by omega
    have hb := gB_lt hB hlt
    have hk := hq _ hb
    unfold Tex_endOf_B5
    dsimp only [lt]
    rw [mv_1 (by decide), hT.1, if_neg (nI_ge hlt (by omega)), if_pos (inb_nI (by omega) (by decide)), nI_clamp (by omega), mv_o (by decide), hT.2 _ hlt, gB_in hlt]
    by_cases c : q (gB w (p + i)) = true
    · have n1 : ¬ (sgd (gB w (p + i)) < lo ∨ hi < sgd (gB w (p + i))) := fun z => by have := hk.mp z; rw [c] at this; cases this
      rw [if_neg (fun z => n1 (Or.inl z)), if_neg (fun z => n1 (Or.inr z)), nI_1]
      refine Or.inl ⟨_, rfl, rfl, by omega, ?_⟩
      rw [← h2]
      exact (wh_st hlt c).symm
    · have c' : q (gB w (p + i)) = false := by simpa using c
      have ex : (1, nI (p + i), mv M p) = (1, nI (wh q w p), mv M p) := by
        rw [← h2, wh_no (fun _ => c')]
      by_cases z : sgd (gB w (p + i)) < lo
      · rw [if_pos z]
        exact Or.inr ⟨_, rfl, (fun q => by cases q), ex⟩
      · rw [if_neg z, if_pos (by rcases hk.mpr c' with y | y
                                 · exact absurd y z
                                 · exact y)]
        exact Or.inr ⟨_, rfl, (fun q => by cases q), ex⟩) (fun s hs => by
    obtain ⟨rfl, h1, h2⟩ := hs
    refine ⟨_, ?_, (fun q => by cases q), rfl⟩
    unfold Tex_endOf_B5
    dsimp only
    rw [mv_1 (by decide), hT.1, if_pos (nI_le (by omega) (by omega)), ← h2, wh_no (fun q => by omega)]) (by omega) ⟨rfl, hp, rfl⟩
  obtain ⟨z, e, rfl⟩ := key
  unfold Tex_endOf
  dsimp only [lt]
  rw [mv_p, e, Option.bind_some]
  rfl
def kwT : List (List Nat) := [[119, 111, 114, 100], [102, 111, 114], [116, 111], [98, 121]]
def kwO (k : Nat) : List Nat := kwT.getD k []
theorem kwT_ok : ∀ k, k < 4 → zSl.getD k 0 = (kwO k).length ∧ ∀ j, j < (kwO k).length → (zSb.getD k []).getD j 0 = nI ((kwO k).getD j 0) ∧ (kwO k).getD j 0 < 256 := by decide
theorem kwT_le : ∀ k, k < 4 → (kwO k).length ≤ 4 := by decide
theorem word_ok {F p k : Nat} {w : List Nat} {M : zM} (hB : okB w) (hT : TX w M) (hp : p ≤ w.length) (hk : k < 4) (hF : 3000 < F) : Tex_wordIs F k (mv M p) = some (bI (isW (kwO k) w p), mv M p) := by
  have h240 := hB.1
  have a := wh_sp qL hp
  have a1 : p ≤ enL w p := a.1
  have a2 : enL w p ≤ w.length := a.2.1
  obtain ⟨k1, k2⟩ := kwT_ok k hk
  have k4 := kwT_le k hk
  unfold Tex_wordIs
  rw [end_ok hB hT hp sg_L hF, Option.bind_some]
  dsimp only
  unfold JStr_length
  rw [Option.bind_some, k1]
  dsimp only
  rw [mv_p, show nI (wh qL w p) - nI p = nI (enL w p - p) from pk_sub a1]
  have hl := rng_len a1 a2
  by_cases c : enL w p - p = (kwO k).length
  · rw [if_pos (show nI (enL w p - p) = Int32.ofNat (kwO k).length by rw [c]; rfl)]
    have key := loopN_inv (body := Tex_wordIs_B24 F k) (I := fun j s => s = (nI j, mv M p) ∧ (rng w p (enL w p)).take j = (kwO k).take j) (Qx := fun q => (q = (1, 0, mv M p) ∧ rng w p (enL w p) ≠ kwO k) ∨ (q = (2, 0, mv M p) ∧ rng w p (enL w p) = kwO k)) (N := (kwO k).length) (F := F) (s := (0, mv M p)) (fun j s hj hs => by
      obtain ⟨rfl, h1⟩ := hs
      obtain ⟨j1, j2⟩ := k2 j hj
      have hlt : p + j < w.length := by omega
      unfold Tex_wordIs_B24 JStr_length
      dsimp only [lt]
      rw [Option.bind_some, k1]
      dsimp only
      rw [if_neg (show ¬ Int32.ofNat (kwO k).length ≤ nI j from nI_ge hj (by omega)), mv_p, nI_add, byte_ok hB hT.mv (by omega), Option.bind_some]
      dsimp only
      unfold JStr_charAt
      rw [k1, if_pos (inb_nI hj (by omega)), nI_clamp (by omega), Option.bind_some, j1]
      dsimp only
      have rg : (rng w p (enL w p)).getD j 0 = gB w (p + j) := by rw [rng_get (by omega), gB_in hlt]
      by_cases z : gB w (p + j) = (kwO k).getD j 0
      · rw [if_pos ((cI_eq hB j2).mpr z), nI_1]
        exact Or.inl ⟨_, rfl, rfl, by rw [take_s (by omega), take_s hj, h1, rg, z]⟩
      · rw [if_neg (fun q => z ((cI_eq hB j2).mp q))]
        exact Or.inr ⟨_, rfl, (fun q => by cases q), Or.inl ⟨rfl, fun q => z (by rw [← rg, q])⟩⟩) (fun s hs => by
      obtain ⟨rfl, h1⟩ := hs
      refine ⟨_, ?_, (fun q => by cases q), Or.inr ⟨rfl, ?_⟩⟩
      · unfold Tex_wordIs_B24 JStr_length
        dsimp only
        rw [Option.bind_some, k1]
        dsimp only
        rw [if_pos (show Int32.ofNat (kwO k).length ≤ nI (kwO k).length from Int32.le_refl _)]
      · rw [List.take_length, List.take_of_length_le (by omega)] at h1
        exact h1) (by omega) ⟨rfl, by rw [List.take_zero, List.take_zero]⟩
    obtain ⟨q, e, ⟨rfl, r⟩ | ⟨rfl, r⟩⟩ := key
    · rw [e, Option.bind_some]
      unfold isW
      rw [decide_eq_false r]; rfl
    · rw [e, Option.bind_some]
      unfold isW
      rw [decide_eq_true r]; rfl
  · rw [if_neg (show ¬ nI (enL w p - p) = Int32.ofNat (kwO k).length from fun q => c ((nI_eq (by omega) (by omega)).mp q))]
    unfold isW
    rw [decide_eq_false (fun q => c (by rw [← q]; exact hl.symm))]; rfl

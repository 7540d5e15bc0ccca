/-! twins: the class -/
def TwP (T : Tn) (P : List Nat) (x y c : Int32) : Prop := (∃ cs : List Nat, cs.Nodup ∧ (∀ n, n ∈ cs ↔ n ∈ P ∧ ∃ m, m ∈ P ∧ m ≠ n ∧ rnN T n = rnN T m) ∧ c = nI cs.length) ∧ ((x = -1 ∧ y = -1 ∧ ∀ n m, n ∈ P → m ∈ P → n ≠ m → rnN T n ≠ rnN T m) ∨ ∃ n m, x = nI n ∧ y = nI m ∧ n < m ∧ n ∈ P ∧ m ∈ P ∧ rnN T n = rnN T m ∧ (∀ n' m', n' ∈ P → m' ∈ P → rnN T n' = rnN T m' → n' < m' → m ≤ m') ∧ ∀ n', n' ∈ P → rnN T n' = rnN T m → n' < m → n ≤ n')
theorem mem_p1 {P : List Nat} {e n : Nat} : n ∈ P ++ [e] ↔ n ∈ P ∨ n = e := by simp
theorem TwP.new {T : Tn} {P : List Nat} {e : Nat} {x y c : Int32} (h : TwP T P x y c) (he : ∀ i, i ∈ P → rnN T i ≠ rnN T e) : TwP T (P ++ [e]) x y c := by
  obtain ⟨⟨cs, a1, a2, a3⟩, b⟩ := h
  refine ⟨⟨cs, a1, fun n => ?_, a3⟩, ?_⟩
  · rw [a2 n]
    constructor
    · rintro ⟨q1, m, q2, q3⟩; exact ⟨mem_p1.mpr (Or.inl q1), m, mem_p1.mpr (Or.inl q2), q3⟩
    · rintro ⟨q1, m, q2, q3, q4⟩
      rcases mem_p1.mp q1 with z | z
      · rcases mem_p1.mp q2 with w | w
        · exact ⟨z, m, w, q3, q4⟩
        · rw [w] at q4; exact absurd q4 (he n z)
      · rcases mem_p1.mp q2 with w | w
        · rw [z] at q4; exact absurd q4.symm (he m w)
        · exact absurd (w.trans z.symm) q3
  · rcases b with ⟨p1, p2, p3⟩ | ⟨n, m, p1, p2, p3, p4, p5, p6, p7, p8⟩
    · refine Or.inl ⟨p1, p2, fun n m hn hm hne => ?_⟩
      rcases mem_p1.mp hn with z | z
      · rcases mem_p1.mp hm with w | w
        · exact p3 n m z w hne
        · rw [w]; exact he n z
      · rcases mem_p1.mp hm with w | w
        · rw [z]; exact fun q => he m w q.symm
        · exact absurd (z.trans w.symm) hne
    · refine Or.inr ⟨n, m, p1, p2, p3, mem_p1.mpr (Or.inl p4), mem_p1.mpr (Or.inl p5), p6, fun n' m' hn hm hr hl => ?_, fun n' hn hr hl => ?_⟩
      · rcases mem_p1.mp hn with z | z
        · rcases mem_p1.mp hm with w | w
          · exact p7 n' m' z w hr hl
          · rw [w] at hr; exact absurd hr (he n' z)
        · rcases mem_p1.mp hm with w | w
          · rw [z] at hr; exact absurd hr.symm (he m' w)
          · omega
      · rcases mem_p1.mp hn with z | z
        · exact p8 n' z hr hl
        · rw [z] at hr; exact absurd hr.symm (he m p5)
theorem TwP.more {T : Tn} {P : List Nat} {e f g : Nat} {x y c : Int32} (h : TwP T P x y c) (hf : f ∈ P) (hg : g ∈ P) (fg : f < g) (r1 : rnN T f = rnN T e) (r2 : rnN T g = rnN T e) (he : ∀ i, i ∈ P → rnN T i = rnN T e → i < e) : TwP T (P ++ [e]) x y (c + 1) := by
  obtain ⟨⟨cs, a1, a2, a3⟩, b⟩ := h
  have eP : e ∉ P := fun q => absurd (he e q rfl) (Nat.lt_irrefl e)
  refine ⟨⟨cs ++ [e], ?_, fun n => ?_, by rw [a3, nI_1, List.length_append]; rfl⟩, ?_⟩
  · refine List.nodup_append.mpr ⟨a1, by simp, fun a ha b hb => ?_⟩
    have hb : b = e := by simpa using hb
    exact fun q => eP (by rw [← hb, ← q]; exact ((a2 a).mp ha).1)
  · rw [mem_p1, a2 n]
    constructor
    · rintro (⟨q1, m, q2, q3⟩ | q)
      · exact ⟨mem_p1.mpr (Or.inl q1), m, mem_p1.mpr (Or.inl q2), q3⟩
      · rw [q]; exact ⟨mem_p1.mpr (Or.inr rfl), f, mem_p1.mpr (Or.inl hf), fun z => eP (by rw [← z]; exact hf), r1.symm⟩
    · rintro ⟨q1, m, q2, q3, q4⟩
      rcases mem_p1.mp q1 with z | z
      · refine Or.inl ⟨z, ?_⟩
        rcases mem_p1.mp q2 with w | w
        · exact ⟨m, w, q3, q4⟩
        · rw [w] at q4
          by_cases c : f = n
          · exact ⟨g, hg, by omega, q4.trans r2.symm⟩
          · exact ⟨f, hf, c, q4.trans r1.symm⟩
      · exact Or.inr z
  · rcases b with ⟨p1, p2, p3⟩ | ⟨n, m, p1, p2, p3, p4, p5, p6, p7, p8⟩
    · exact absurd (r1.trans r2.symm) (p3 f g hf hg (by omega))
    · have mg := p7 f g hf hg (r1.trans r2.symm) fg
      have ge := he g hg r2
      refine Or.inr ⟨n, m, p1, p2, p3, mem_p1.mpr (Or.inl p4), mem_p1.mpr (Or.inl p5), p6, fun n' m' hn hm hr hl => ?_, fun n' hn hr hl => ?_⟩
      · rcases mem_p1.mp hm with w | w
        · rcases mem_p1.mp hn with z | z
          · exact p7 n' m' z w hr hl
          · rw [z] at hr hl
            have := he m' w hr.symm
            omega
        · omega
      · rcases mem_p1.mp hn with z | z
        · exact p8 n' z hr hl
        · omega
theorem TwP.two {T : Tn} {P : List Nat} {e f : Nat} {x y c : Int32} (h : TwP T P x y c) (hf : f ∈ P) (fe : f < e) (r1 : rnN T f = rnN T e) (he : ∀ i, i ∈ P → i ≠ f → rnN T i ≠ rnN T e) (hb : ∀ i, i ∈ P → i < 1000) (hb2 : e < 1000) : TwP T (P ++ [e]) (if y = -1 then nI f else if y ≤ nI e then x else nI f) (if y = -1 then nI e else if y ≤ nI e then y else nI e) (c + 2) := by
  obtain ⟨⟨cs, a1, a2, a3⟩, b⟩ := h
  have eP : e ∉ P := fun q => he e q (by omega) rfl
  have fcs : f ∉ cs := fun q => by
    obtain ⟨-, m, m1, m2, m3⟩ := (a2 f).mp q
    exact he m m1 m2 (m3.symm.trans r1)
  have pe : ∀ n', n' ∈ P ++ [e] → rnN T n' = rnN T e → n' = f ∨ n' = e := fun n' hn hr => by
    rcases mem_p1.mp hn with z | z
    · by_cases q : n' = f
      · exact Or.inl q
      · exact absurd hr (he n' z q)
    · exact Or.inr z
  refine ⟨⟨cs ++ [f] ++ [e], ?_, fun n => ?_, by rw [a3, List.length_append, List.length_append]; exact nI_add cs.length 2⟩, ?_⟩
  · refine List.nodup_append.mpr ⟨List.nodup_append.mpr ⟨a1, by simp, fun a ha b hb => ?_⟩, by simp, fun a ha b hb => ?_⟩
    · have hb : b = f := by simpa using hb
      exact fun q => fcs (by rw [← hb, ← q]; exact ha)
    · have hb : b = e := by simpa using hb
      rcases mem_p1.mp ha with z | z
      · exact fun q => eP (by rw [← hb, ← q]; exact ((a2 a).mp z).1)
      · omega
  · rw [mem_p1, mem_p1, a2 n]
    constructor
    · rintro ((⟨q1, m, q2, q3⟩ | q) | q)
      · exact ⟨mem_p1.mpr (Or.inl q1), m, mem_p1.mpr (Or.inl q2), q3⟩
      · rw [q]; exact ⟨mem_p1.mpr (Or.inl hf), e, mem_p1.mpr (Or.inr rfl), by omega, r1⟩
      · rw [q]; exact ⟨mem_p1.mpr (Or.inr rfl), f, mem_p1.mpr (Or.inl hf), by omega, r1.symm⟩
    · rintro ⟨q1, m, q2, q3, q4⟩
      rcases mem_p1.mp q1 with z | z
      · rcases mem_p1.mp q2 with w | w
        · exact Or.inl (Or.inl ⟨z, m, w, q3, q4⟩)
        · rw [w] at q4
          rcases pe n q1 q4 with u | u
          · exact Or.inl (Or.inr u)
          · exact Or.inr u
      · exact Or.inr z
  · have set : (∀ n' m', n' ∈ P → m' ∈ P → rnN T n' = rnN T m' → n' < m' → e ≤ m') → ∃ n m, nI f = nI n ∧ nI e = nI m ∧ n < m ∧ n ∈ P ++ [e] ∧ m ∈ P ++ [e] ∧ rnN T n = rnN T m ∧ (∀ n' m', n' ∈ P ++ [e] → m' ∈ P ++ [e] → rnN T n' = rnN T m' → n' < m' → m ≤ m') ∧ ∀ n', n' ∈ P ++ [e] → rnN T n' = rnN T m → n' < m → n ≤ n' := fun hmin => by
      refine ⟨f, e, rfl, rfl, fe, mem_p1.mpr (Or.inl hf), mem_p1.mpr (Or.inr rfl), r1, fun n' m' hn hm hr hl => ?_, fun n' hn hr hl => ?_⟩
      · rcases mem_p1.mp hm with w | w
        · rcases mem_p1.mp hn with z | z
          · exact hmin n' m' z w hr hl
          · rw [z] at hr
            rcases pe m' hm hr.symm with u | u <;> omega
        · omega
      · rcases pe n' hn hr with u | u <;> omega
    rcases b with ⟨p1, p2, p3⟩ | ⟨n, m, p1, p2, p3, p4, p5, p6, p7, p8⟩
    · rw [if_pos p2, if_pos p2]
      exact Or.inr (set (fun n' m' hn hm hr hl => absurd hr (p3 n' m' hn hm (by omega))))
    · have bm := hb m p5
      have y1 : ¬ y = -1 := by rw [p2]; exact nlen_ne (by omega)
      rw [if_neg y1, if_neg y1]
      by_cases c : m ≤ e
      · have y2 : y ≤ nI e := by rw [p2]; exact nI_le c (by omega)
        rw [if_pos y2, if_pos y2]
        refine Or.inr ⟨n, m, p1, p2, p3, mem_p1.mpr (Or.inl p4), mem_p1.mpr (Or.inl p5), p6, fun n' m' hn hm hr hl => ?_, fun n' hn hr hl => ?_⟩
        · rcases mem_p1.mp hm with w | w
          · rcases mem_p1.mp hn with z | z
            · exact p7 n' m' z w hr hl
            · rw [z] at hr
              rcases pe m' hm hr.symm with u | u <;> omega
          · omega
        · rcases mem_p1.mp hn with z | z
          · exact p8 n' z hr hl
          · omega
      · have y2 : ¬ y ≤ nI e := by rw [p2]; exact nI_ge (by omega) (by omega)
        rw [if_neg y2, if_neg y2]
        exact Or.inr (set (fun n' m' hn hm hr hl => by have := p7 n' m' hn hm hr hl; omega))
theorem mem_tk {L : List Nat} {j n : Nat} : n ∈ L.take j ↔ ∃ i, i < j ∧ i < L.length ∧ L.getD i 0 = n := by
  rw [List.mem_iff_getElem]
  constructor
  · rintro ⟨i, hi, rfl⟩
    rw [List.length_take] at hi
    exact ⟨i, by omega, by omega, by rw [getD_g (by omega), List.getElem_take]⟩
  · rintro ⟨i, h1, h2, rfl⟩
    exact ⟨i, by rw [List.length_take]; omega, by rw [getD_g h2, List.getElem_take]⟩
theorem TwP.tw {T : Tn} {L : List Nat} {x y c : Int32} (h : TwP T L x y c) (hL : L.Perm (named T)) : IsTw T x y c := by
  have mL : ∀ n, n ∈ L ↔ n < 1000 ∧ (T.2 n).isSome = true := fun n => by
    rw [hL.mem_iff]; unfold named; rw [List.mem_filter, List.mem_range]
  have tw : ∀ n m, twin T n m ↔ n ≠ m ∧ n ∈ L ∧ m ∈ L ∧ rnN T n = rnN T m := fun n m => by
    rw [mL, mL]
    unfold twin rnN
    exact ⟨fun q => ⟨q.1, ⟨q.2.1, q.2.2.2.1⟩, ⟨q.2.2.1, q.2.2.2.2.1⟩, q.2.2.2.2.2⟩, fun q => ⟨q.1, q.2.1.1, q.2.2.1.1, q.2.1.2, q.2.2.1.2, q.2.2.2⟩⟩
  obtain ⟨⟨cs, a1, a2, a3⟩, b⟩ := h
  refine ⟨⟨cs, a1, fun n => ?_, a3⟩, ?_⟩
  · rw [a2 n]
    constructor
    · rintro ⟨q1, m, q2, q3, q4⟩; exact ⟨m, (tw n m).mpr ⟨fun z => q3 z.symm, q1, q2, q4⟩⟩
    · rintro ⟨m, q⟩
      have q := (tw n m).mp q
      exact ⟨q.2.1, m, q.2.2.1, fun z => q.1 z.symm, q.2.2.2⟩
  · rcases b with ⟨p1, p2, p3⟩ | ⟨n, m, p1, p2, p3, p4, p5, p6, p7, p8⟩
    · refine Or.inl ⟨p1, p2, fun n m q => ?_⟩
      have q := (tw n m).mp q
      exact p3 n m q.2.1 q.2.2.1 q.1 q.2.2.2
    · refine Or.inr ⟨n, m, p1, p2, p3, (tw n m).mpr ⟨by omega, p4, p5, p6⟩, fun n' m' q hl => ?_, fun n' q hl => ?_⟩
      · have q := (tw n' m').mp q
        exact p7 n' m' q.2.1 q.2.2.1 q.2.2.2 hl
      · have q := (tw n' m).mp q
        exact p8 n' q.2.1 q.2.2.2 hl

/-! ===== the memory: every cell's ints (fields or elements) and longs, by the cell's number; its shape is fixed ===== -/
abbrev zM : Type := (Nat → Nat → Int32) × (Nat → Nat → Int64)
def zI (M : zM) (a k : Nat) (v : Int32) : zM := (va_up M.1 a (upd (M.1 a) k v), M.2)
def zL (M : zM) (a k : Nat) (v : Int64) : zM := (M.1, va_up M.2 a (vp_updL (M.2 a) k v))
/-- an index that is within a row of n places -/
def inb (i : Int32) (n : Nat) : Bool := decide (0 ≤ i.toInt ∧ i.toInt < n)
theorem inb_in {i : Int32} {n : Nat} (h : inb i n = true) : vp_in i n := vp_in_iff.mpr (of_decide_eq_true h)
def zC : Nat := 99
def zKl : List Nat := [10, 8, 13, 0, 12, 12, 12, 12, 12, 14, 15, 12, 2, 16, 9, 6, 15, 6, 15, 12, 12, 12, 12, 12, 9, 6, 15, 6, 15, 12, 12, 12, 12, 12, 9, 6, 15, 6, 15, 12, 12, 12, 12, 12, 4, 3, 15, 3, 15, 12, 5, 12, 12, 3, 15, 3, 15, 6, 15, 1, 15, 7, 12, 11, 12, 14, 12, 12, 12, 12, 12, 14, 12, 12, 12, 15, 12, 12, 12, 12, 14, 12, 12, 12, 12, 12, 14, 12, 12, 12, 12, 12, 12, 12, 15, 12, 12, 14, 12]
theorem zKl_len : zKl.length = zC := by decide
def zNl : List Nat := [0, 0, 240, 0, 12, 12, 12, 12, 96, 96, 96, 96, 0, 3, 0, 0, 5000, 0, 5000, 1000, 1000, 1000, 1000, 1000, 0, 0, 5000, 0, 5000, 1000, 1000, 1000, 1000, 1000, 0, 0, 5000, 0, 5000, 1000, 1000, 1000, 1000, 1000, 0, 0, 5, 0, 5, 1000, 0, 1000, 1000, 0, 5, 0, 5, 0, 5, 0, 32, 0, 9, 0, 3, 36, 36, 36, 36, 36, 288, 288, 288, 3456, 3000, 24000, 3000, 3000, 3000, 240, 12, 12, 12, 12, 12, 96, 96, 96, 1152, 800, 1000, 1000, 60, 60, 1000, 60, 61, 1000, 9]
def zRl : List (List (Option Nat)) := [[some 1, some 3, some 12, some 13, some 44, some 50, some 53, some 55, some 57, some 59, some 61], [some 2], [], [none, some 4, some 5, some 6, some 7, some 8, some 9, some 10, some 11], [], [], [], [], [], [], [], [], [some 1, some 3], [some 14, some 24, some 34], [none, none, some 15, some 17, some 19, some 20, some 21, some 22, some 23], [some 16], [], [some 18], [], [], [], [], [], [], [none, none, some 25, some 27, some 29, some 30, some 31, some 32, some 33], [some 26], [], [some 28], [], [], [], [], [], [], [none, none, some 35, some 37, some 39, some 40, some 41, some 42, some 43], [some 36], [], [some 38], [], [], [], [], [], [], [some 3, some 45, some 47, some 49], [some 46], [], [some 48], [], [], [some 51, some 52], [], [], [some 54], [], [some 56], [], [some 58], [], [some 60], [], [some 62], [], [some 64, some 65, some 66, some 67, some 68, some 69, some 70, some 71, some 72, some 73, some 74, some 75, some 76, some 77, some 78, some 79, none, none, none, none, some 80, some 81, some 82, some 83, some 84, some 85, some 86, some 87, some 88, none, none, none, some 89, none, some 90, none, none, none, some 91, some 92, some 93, some 94, none, some 95, some 96, some 97, some 98], [], [], [], [], [], [], [], [], [], [], [], [], [], [], [], [], [], [], [], [], [], [], [], [], [], [], [], [], [], [], [], [], [], [], []]
def zTl : List (List Bool) := [[true, false, false, false, false, false, false, false, false], [false, true], [false, false, true, true], [false, true], [false, false, false, false, true], [false, false], [false], [false], [false, true, true], [true, true, false, false, false, false, false, false, false, true, true, true, true, true], [false, false, false, false, false, false, false, false, false, false, false], [false, false, false, false, false, false, false, false, false, false, false, false, false, false, false, false, true, true, true, true, false, false, false, false, false, false, false, false, false, true, true, true, false, true, false, true, true, true, false, false, false, false, true, false, false, false, false]]
def zK (a : Nat) : Nat := zKl.getD a 99
def zN (a : Nat) : Nat := zNl.getD a 0
def zR (a j : Nat) : Option Nat := (zRl.getD a []).getD j none
/-- is field j of a class's objects an int (or a boolean)? else it is a reference -/
def zT (c j : Nat) : Bool := (zTl.getD c []).getD j false
def zF (c : Nat) : Nat := (zTl.getD c []).length
theorem zK_lt {a c : Nat} (h : zK a = c) (hc : c < 20) : a < zC := by
  rcases Nat.lt_or_ge a zC with q | q
  · exact q
  · have e : zK a = 99 := by
      unfold zK
      rw [List.getD_eq_getElem?_getD, List.getElem?_eq_none (by rw [zKl_len]; exact q)]
      rfl
    omega
def fld (bs : Nat) (Rf : Nat → Nat → Option Nat) (M : zM) (c a j : Nat) : Value := if zT c j = true then .int (M.1 a j) else va_rf ((Rf a j).map (fun r => bs + r))
def fldL (bs : Nat) (Rf : Nat → Nat → Option Nat) (M : zM) (c a : Nat) : List Value := (List.range (zF c)).map (fld bs Rf M c a)
def ent (bs : Nat) (cy : Nat → ClassId) (Rf : Nat → Nat → Option Nat) (M : zM) (a : Nat) : va_E :=
  if zK a < 12 then .inr (zK a, fldL bs Rf M (zK a) a)
  else if zK a = 12 then .inl (cy 0, zN a, .inl (M.1 a))
  else if zK a = 13 then .inl (cy 1, zN a, .inl (M.1 a))
  else if zK a = 14 then .inl (cy 2, zN a, .inl (M.1 a))
  else if zK a = 15 then .inl (cy 3, zN a, .inr (.inl (M.2 a)))
  else .inl (cy 4, zN a, .inr (.inr (.inr (.inr (fun j => (Rf a j).map (fun r => bs + r))))))
def wE (bs : Nat) (cy : Nat → ClassId) (Rf : Nat → Nat → Option Nat) (n : Nat) (M : zM) : va_W := (List.range n).map (fun a => (bs + a, ent bs cy Rf M a))
def tyL (cy : Nat → ClassId) : List (ClassId × FieldType) := [(cy 0, .int), (cy 1, .byte), (cy 2, .boolean), (cy 3, .long), (cy 4, .object "NumberWords$Tongue")]
section ENT
variable {bs : Nat} {cy : Nat → ClassId} {Rf : Nat → Nat → Option Nat} {n a b c k : Nat} {M M' : zM}
theorem ent_o (h : zK a = c) (hc : c < 12) : ent bs cy Rf M a = .inr (c, fldL bs Rf M c a) := by
  unfold ent; rw [h, if_pos hc]
theorem ent_i (h : zK a = 12) : ent bs cy Rf M a = .inl (cy 0, zN a, .inl (M.1 a)) := by
  unfold ent; rw [h, if_neg (by decide), if_pos rfl]
theorem ent_b (h : zK a = 13) : ent bs cy Rf M a = .inl (cy 1, zN a, .inl (M.1 a)) := by
  unfold ent; rw [h, if_neg (by decide), if_neg (by decide), if_pos rfl]
theorem ent_z (h : zK a = 14) : ent bs cy Rf M a = .inl (cy 2, zN a, .inl (M.1 a)) := by
  unfold ent; rw [h, if_neg (by decide), if_neg (by decide), if_neg (by decide), if_pos rfl]
theorem ent_l (h : zK a = 15) : ent bs cy Rf M a = .inl (cy 3, zN a, .inr (.inl (M.2 a))) := by
  unfold ent; rw [h, if_neg (by decide), if_neg (by decide), if_neg (by decide), if_neg (by decide), if_pos rfl]
theorem ent_r (h : zK a = 16) : ent bs cy Rf M a = .inl (cy 4, zN a, .inr (.inr (.inr (.inr (fun j => (Rf a j).map (fun r => bs + r)))))) := by
  unfold ent; rw [h, if_neg (by decide), if_neg (by decide), if_neg (by decide), if_neg (by decide), if_neg (by decide)]
theorem wE_get (h : a < n) : (wE bs cy Rf n M)[a]? = some (bs + a, ent bs cy Rf M a) := by
  unfold wE; simp [h]
theorem wE_D : va_D (fun q => bs ≤ q) (wE bs cy Rf n M) := by
  refine ⟨?_, ?_⟩
  · intro i j p q hp hq e
    unfold wE at hp hq
    rw [List.getElem?_map] at hp hq
    by_cases hi : i < n <;> by_cases hj : j < n <;> simp [hi, hj] at hp hq
    subst hp; subst hq
    simp at e
    exact e
  · intro k q hk
    unfold wE at hk
    rw [List.getElem?_map] at hk
    by_cases hi : k < n <;> simp [hi] at hk
    subst hk
    exact Nat.le_add_right _ _
theorem wE_set (h : a < n) {x : Nat × va_E} (hx : (bs + a, ent bs cy Rf M' a) = x) (ho : ∀ b, b ≠ a → ent bs cy Rf M' b = ent bs cy Rf M b) : (wE bs cy Rf n M).set a x = wE bs cy Rf n M' := by
  subst hx
  unfold wE
  apply List.ext_getElem?
  intro i
  rw [List.getElem?_set]
  by_cases e : a = i
  · subst e
    simp [h]
  · rw [if_neg e]
    by_cases hi : i < n
    · simp [hi, ho i (fun q => e q.symm)]
    · simp [hi]
theorem zI_same {v : Int32} : (zI M a k v).1 a = upd (M.1 a) k v := by unfold zI va_up; simp
theorem zI_other {v : Int32} (h : b ≠ a) : (zI M a k v).1 b = M.1 b := by unfold zI va_up; simp [h]
theorem zL_same {v : Int64} : (zL M a k v).2 a = vp_updL (M.2 a) k v := by unfold zL va_up; simp
theorem zL_other {v : Int64} (h : b ≠ a) : (zL M a k v).2 b = M.2 b := by unfold zL va_up; simp [h]
theorem ent_same (h1 : M'.1 a = M.1 a) (h2 : M'.2 a = M.2 a) : ent bs cy Rf M' a = ent bs cy Rf M a := by
  unfold ent fldL fld; rw [h1, h2]
theorem fldL_get (hk : k < zF c) (ht : zT c k = true) : (fldL bs Rf M c a)[k]? = some (.int (M.1 a k)) := by
  unfold fldL; simp [hk, fld, ht]
theorem fldL_getR (hk : k < zF c) (ht : zT c k = false) {r : Nat} (hr : Rf a k = some r) : (fldL bs Rf M c a)[k]? = some (.ref (bs + r)) := by
  unfold fldL; simp [hk, fld, ht, hr, va_rf]
theorem fldL_set (hk : k < zF c) (ht : zT c k = true) {v : Int32} : (fldL bs Rf M c a).set k (.int v) = fldL bs Rf (zI M a k v) c a := by
  unfold fldL
  apply List.ext_getElem?
  intro i
  rw [List.getElem?_set]
  by_cases e : k = i
  · subst e
    simp [hk, fld, ht, zI_same, upd]
  · rw [if_neg e]
    by_cases hi : i < zF c
    · have hne : ¬ i = k := fun q => e q.symm
      simp [hi, fld, zI_same, upd, hne]
    · simp [hi]
theorem fldL_len : (fldL bs Rf M c a).length = zF c := by unfold fldL; simp
end ENT
/-! ===== what every contract rests on ===== -/
abbrev Gl : Type := Nat × va_G × (Nat → ClassId) × Nat × (Nat → Nat) × (Nat → Nat)
abbrev gA (G : Gl) : Nat → Prop := fun q => G.1 ≤ q
def zLines : List Int32 := [0, 1, 2, 3, 4, 5, 6, 7, 8, 0, 3, 6, 1, 4, 7, 2, 5, 8, 0, 4, 8, 2, 4, 6]
def zSl : List Nat := [4, 3, 2, 2]
def zSb : List (List Int32) := [[119, 111, 114, 100], [102, 111, 114], [116, 111], [98, 121]]
def zNest : List Cond := [Cond.methodLinkNest RX10 9 yX8_init "NumberWords", Cond.methodLinkNest RX10 18 yX0_init "NumberWords", Cond.fieldLinkNest RX4 72 "NumberWords$Clauses" "from" "[I" "NumberWords", Cond.fieldLinkNest RX4 75 "NumberWords$Clauses" "to" "[I" "NumberWords", Cond.fieldLinkNest RX4 81 "NumberWords$Clauses" "unit" "[I" "NumberWords", Cond.fieldLinkNest RX4 84 "NumberWords$Clauses" "parts" "[I" "NumberWords", Cond.fieldLinkNest RX4 91 "NumberWords$Clauses" "kind" "[I" "NumberWords", Cond.fieldLinkNest RX4 87 "NumberWords$Clauses" "bracketed" "[Z" "NumberWords", Cond.fieldLinkNest RX4 94 "NumberWords$Clauses" "signs" "[J" "NumberWords", Cond.fieldLinkNest RX4 98 "NumberWords$Clauses" "signCount" "[I" "NumberWords", Cond.methodLinkNest RX4 11 yX3_init "NumberWords", Cond.methodLinkNest RX10 50 yX5_init "NumberWords", Cond.methodLinkNest RX10 57 yX3_init "NumberWords", Cond.methodLinkNest RX10 76 yX1_init "NumberWords", Cond.methodLinkNest RX10 83 yX7_init "NumberWords"]
theorem zNest_form : ∀ w ∈ zNest, (∃ a i b n d h, w = Cond.fieldLinkNest a i b n d h) ∨ ∃ a i x h, w = Cond.methodLinkNest a i x h := by
  intro w hw
  simp only [zNest, List.mem_cons, List.not_mem_nil, or_false] at hw
  rcases hw with rfl | rfl | rfl | rfl | rfl | rfl | rfl | rfl | rfl | rfl | rfl | rfl | rfl | rfl | rfl <;> first | exact Or.inl ⟨_, _, _, _, _, _, rfl⟩ | exact Or.inr ⟨_, _, _, _, rfl⟩
def zSi : List Nat := [48, 54, 98, 100]
def zSt : List String := ["word", "for", "to", "by"]
/-- what stands below the two objects: the row of a square's lines, the four words -/
def XX (G : Gl) (U : State) (H : Heap) : Prop :=
  va_Z "NumberWords$Square" "LINES" "[I" (.ref G.2.2.2.1) (gA G) U H ∧ va_T .int G.2.2.2.1 24 (fun j => .int (zLines.getD j 0)) (gA G) U H ∧ va_Z "java/lang/String" "COMPACT_STRINGS" "Z" (.int 1) (gA G) U H ∧
  vk_S 4 zSl zSb G.2.2.2.2.1 G.2.2.2.2.2 (gA G) U H ∧ (∀ i, i < 4 → vk_R RX2 (zSi.getD i 0) (zSt.getD i "") (G.2.2.2.2.1 i) U) ∧ (∀ w ∈ zNest, va_Nw w U) ∧ va_Zq "jdk/internal/util/Preconditions" "SIOOBE_FORMATTER" "Ljava/util/function/BiFunction;" (gA G) U H ∧ va_AO "NumberWords$Tongue" U
theorem XX_to {G : Gl} {s U : State} {H : Heap} {locs : List Loc} (h : XX G s s.heap) (hS : va_S (gA G) s.heap H locs) (hU : U.heap = H) (hW : s.WarmedH U.vm) : XX G U U.heap := by
  obtain ⟨h1, h2, h3, h4, h5, h6, h8, h9⟩ := h
  rw [hU]
  refine ⟨va_Z.moved hW.alike (h1.kept hS.2.1), va_T.moved hW.alike (h2.kept hS.2.1), va_Z.moved hW.alike (h3.kept hS.2.1), vk_S.moved hW.alike (h4.kept hS.2.1), fun i hi => vk_R.warm hW (h5 i hi), fun w hw => ?_, va_Zq.moved hW.alike (h8.kept hS.2.1), va_AO.moved hW.alike h9⟩
  have h7 := h6 w hw
  rcases zNest_form w hw with ⟨a, i, b, n, d, h, rfl⟩ | ⟨a, i, x, h, rfl⟩
  · exact va_Nw.warmF hW h7
  · exact va_Nw.warmM hW h7
/-- calling changes neither heap nor tables -/
theorem XX_call {G : Gl} {U : State} {g : JFrame} {mk : MethodId} {a : Array Value} (h : XX G U U.heap) : XX G (U.calling g mk a) (U.calling g mk a).heap := by
  obtain ⟨h1, h2, h3, h4, h5, h6, h8, h9⟩ := h
  have e : (U.calling g mk a).heap = U.heap := rfl
  have ev : (U.calling g mk a).vm = U.vm := rfl
  rw [e]
  refine ⟨va_Z.moved (Vm.Alike.refl U.vm) h1, va_T.moved (Vm.Alike.refl U.vm) h2, va_Z.moved (Vm.Alike.refl U.vm) h3, vk_S.moved (Vm.Alike.refl U.vm) h4, fun i hi => vk_R.same ev (h5 i hi), fun w hw => ?_, va_Zq.moved (Vm.Alike.refl U.vm) h8, va_AO.moved (u := U) (Vm.Alike.refl U.vm) h9⟩
  have h7 := h6 w hw
  rcases zNest_form w hw with ⟨a, i, b, n, d, h, rfl⟩ | ⟨a, i, x, h, rfl⟩
  · exact va_Nw.same rfl ev.symm h7
  · exact va_Nw.same rfl ev.symm h7
/-- a contract's start: the memory M -/
def Pre (G : Gl) (M : zM) (av : List Value) : Array Value → State → Prop := va_Pc av (fun U => va_P G.2.1 vwCl (wE G.1 G.2.2.1 zR zC M) U.heap ∧ va_K G.2.1 vwCl (tyL G.2.2.1) U ∧ XX G U U.heap)
def PoI (G : Gl) (q : Int32 × zM) : Array Value → State → Outcome → State → Prop := va_Qi (fun x (_ : Unit) => x = q.1) (fun _ t => va_P G.2.1 vwCl (wE G.1 G.2.2.1 zR zC q.2) t.heap) (gA G)
def PoL (G : Gl) (q : Int64 × zM) : Array Value → State → Outcome → State → Prop := va_Ql (fun x (_ : Unit) => x = q.1) (fun _ t => va_P G.2.1 vwCl (wE G.1 G.2.2.1 zR zC q.2) t.heap) (gA G)
def PoV (G : Gl) (q : Unit × zM) : Array Value → State → Outcome → State → Prop := va_Qv (fun (_ : Unit) => True) (fun _ t => va_P G.2.1 vwCl (wE G.1 G.2.2.1 zR zC q.2) t.heap) (gA G)
def PoR (G : Gl) (q : Nat × zM) : Array Value → State → Outcome → State → Prop := va_Qr (fun (_ : Unit) => True) (fun _ a t => a = G.1 + q.1 ∧ va_P G.2.1 vwCl (wE G.1 G.2.2.1 zR zC q.2) t.heap) (gA G)
theorem Pre_blind {G : Gl} {M : zM} {av : List Value} : FrameBlind (Pre G M av) := by
  intro a U g mk h
  obtain ⟨h1, h2, h3, h4⟩ := h
  exact ⟨h1, h2, va_K.moved (u := U) (U := U.calling g mk a) (Vm.Alike.refl U.vm) h3, XX_call h4⟩
/-- a method's words: its own code, and all good words of the tables -/
def wsM (y : MethodName) (cc : ByteArray) (nL : Nat) (ret : Option FieldType) : List Cond := .code y cc nL ret :: TG
def rmM (f lo : Nat) : Room := { frames := f, cells := 0, slots := 0, locals := lo }
/-- the method's own standing: constant along its body -/
def Cx (G : Gl) (cc : ByteArray) (nL : Nat) (own : String) (p : Program) (s : State) (m : MethodId) (args : Array Value) (c : Code) : Prop :=
  p.tables.exec = Jvm.exec ∧ c.code = cc ∧ c.maxLocals = nL ∧ s.vm.findClass own = some m.cls ∧ (∀ w ∈ TG, w.before args s = true) ∧ va_K G.2.1 vwCl (tyL G.2.2.1) s ∧ XX G s s.heap
/-- the heap holds the memory M, and below the objects nothing has changed -/
def St (G : Gl) (M : zM) (s : State) (H : Heap) (locs : List Loc) : Prop := va_P G.2.1 vwCl (wE G.1 G.2.2.1 zR zC M) H ∧ va_S (gA G) s.heap H locs
/-- a class of the world, as the tables have it -/
def CL (ci : Nat) (Cn : String) (T : u_T) (N : Nat) (ty0 : Nat → FieldType) : Prop := vwCl[ci]? = some (Cn, T, N) ∧ (∀ w ∈ u_ws Cn T N, w ∈ TG) ∧ (∀ k, k < N → parseFieldDescriptor (T k).2.2.1 = some (ty0 k)) ∧ (∀ a, a < N → ∀ b, b < N → a ≠ b → (T a).2.1 ≠ (T b).2.1) ∧ N = zF ci ∧ ci < 12
/-- a field's link: from a class's pool to field k of the objects of kind ci -/
def FL (own : String) (idx ci k : Nat) : Prop := ∃ (Cn : String) (T : u_T) (N : Nat) (ty0 : Nat → FieldType), CL ci Cn T N ty0 ∧ k < N ∧ Cond.fieldLink own idx (T k).1 (T k).2.1 (T k).2.2.1 ∈ TG
def FN (own : String) (idx ci k : Nat) : Prop := ∃ (Cn : String) (T : u_T) (N : Nat) (ty0 : Nat → FieldType) (host : String), CL ci Cn T N ty0 ∧ k < N ∧ Cond.fieldLinkNest own idx (T k).1 (T k).2.1 (T k).2.2.1 host ∈ zNest
def FP (own : String) (idx ci k : Nat) (ty : FieldType) : Prop := ∃ (Cn : String) (T : u_T) (N : Nat) (ty0 : Nat → FieldType), CL ci Cn T N ty0 ∧ k < N ∧ Cond.fieldLink own idx (T k).1 (T k).2.1 (T k).2.2.1 ∈ TG ∧ (T k).2.2.2 = false ∧ parseFieldDescriptor (T k).2.2.1 = some ty
/-! bindings of the plain functions -/
def lt {α β : Type} (x : α) (f : α → β) : β := f x
theorem olt {α β : Type} {x : α} {f : α → β} {r : β} (h : lt x f = r) : ∃ y, y = x ∧ f y = r := ⟨x, rfl, h⟩
theorem ob {α β : Type} {x : Option α} {f : α → Option β} {r : β} (h : x.bind f = some r) : ∃ y, x = some y ∧ f y = some r := by
  cases x with
  | none => cases h
  | some y => exact ⟨y, rfl, h⟩
theorem ifp {α : Type} {c : Prop} [Decidable c] {x y r : α} (hc : c) (h : (if c then x else y) = r) : x = r := by rw [if_pos hc] at h; exact h
theorem ifn {α : Type} {c : Prop} [Decidable c] {x y r : α} (hc : ¬ c) (h : (if c then x else y) = r) : y = r := by rw [if_neg hc] at h; exact h
/-- a test that must hold -/
theorem ift {α : Type} {c : Prop} [Decidable c] {x : Option α} {r : α} (h : (if c then x else none) = some r) : c ∧ x = some r := by
  by_cases hc : c
  · rw [if_pos hc] at h; exact ⟨hc, h⟩
  · rw [if_neg hc] at h; cases h
def loopN {σ : Type} (body : σ → Option (Nat × σ)) : Nat → σ → Option (Nat × σ)
  | 0, _ => none
  | n + 1, s => (body s).bind (fun q => if q.1 = 0 then loopN body n q.2 else some q)
theorem loopW {σ : Type} {body : σ → Option (Nat × σ)} {E : Nat → σ → Prop} (hb : ∀ s q, body s = some q → E q.1 q.2 → E 0 s) : ∀ (n : Nat) (s : σ) (q : Nat × σ), loopN body n s = some q → E q.1 q.2 → E 0 s := by
  intro n
  induction n with
  | zero => intro s q h; cases h
  | succ n ih =>
    intro s q h hE
    obtain ⟨y, hy, h⟩ := ob h
    by_cases h0 : y.1 = 0
    · have h := ifp h0 h
      exact hb s y hy (by rw [h0]; exact ih _ _ h hE)
    · have e := Option.some.inj (ifn h0 h)
      rw [← e] at hE
      exact hb s y hy hE
theorem loopN_ne {σ : Type} {body : σ → Option (Nat × σ)} : ∀ (n : Nat) (s : σ) (q : Nat × σ), loopN body n s = some q → q.1 ≠ 0 := by
  intro n
  induction n with
  | zero => intro s q h; cases h
  | succ n ih =>
    intro s q h
    obtain ⟨y, hy, h⟩ := ob h
    by_cases h0 : y.1 = 0
    · exact ih _ _ (ifp h0 h)
    · have e := Option.some.inj (ifn h0 h)
      rw [← e]
      exact h0
theorem cl_X0 : CL 0 RX0 TX0 9 tyX0 := ⟨rfl, in_X0, tyX0_ok, nmX0, rfl, by decide⟩
theorem cl_X1 : CL 1 RX1 TX1 2 tyX1 := ⟨rfl, in_X1, tyX1_ok, nmX1, rfl, by decide⟩
theorem cl_X2 : CL 2 RX2 TX2 4 tyX2 := ⟨rfl, in_X2, tyX2_ok, nmX2, rfl, by decide⟩
theorem cl_X3 : CL 3 RX3 TX3 2 tyX3 := ⟨rfl, in_X3, tyX3_ok, nmX3, rfl, by decide⟩
theorem cl_X4 : CL 4 RX4 TX4 5 tyX4 := ⟨rfl, in_X4, tyX4_ok, nmX4, rfl, by decide⟩
theorem cl_X5 : CL 5 RX5 TX5 2 tyX5 := ⟨rfl, in_X5, tyX5_ok, nmX5, rfl, by decide⟩
theorem cl_X6 : CL 6 RX6 TX6 1 tyX6 := ⟨rfl, in_X6, tyX6_ok, nmX6, rfl, by decide⟩
theorem cl_X7 : CL 7 RX7 TX7 1 tyX7 := ⟨rfl, in_X7, tyX7_ok, nmX7, rfl, by decide⟩
theorem cl_X8 : CL 8 RX8 TX8 3 tyX8 := ⟨rfl, in_X8, tyX8_ok, nmX8, rfl, by decide⟩
theorem cl_X9 : CL 9 RX9 TX9 14 tyX9 := ⟨rfl, in_X9, tyX9_ok, nmX9, rfl, by decide⟩
theorem cl_X10 : CL 10 RX10 TX10 11 tyX10 := ⟨rfl, in_X10, tyX10_ok, nmX10, rfl, by decide⟩
theorem cl_X11 : CL 11 RX11 TX11 47 tyX11 := ⟨rfl, in_X11, tyX11_ok, nmX11, rfl, by decide⟩
theorem fl_X10_10 : FL RX10 10 10 0 := ⟨_, _, _, _, cl_X10, by decide, tw_255⟩
theorem fl_X10_19 : FL RX10 19 10 1 := ⟨_, _, _, _, cl_X10, by decide, tw_256⟩
theorem fl_X10_28 : FL RX10 28 10 2 := ⟨_, _, _, _, cl_X10, by decide, tw_257⟩
theorem fl_X10_34 : FL RX10 34 10 3 := ⟨_, _, _, _, cl_X10, by decide, tw_258⟩
theorem fl_X10_44 : FL RX10 44 10 4 := ⟨_, _, _, _, cl_X10, by decide, tw_259⟩
theorem fl_X10_51 : FL RX10 51 10 5 := ⟨_, _, _, _, cl_X10, by decide, tw_260⟩
theorem fl_X10_58 : FL RX10 58 10 6 := ⟨_, _, _, _, cl_X10, by decide, tw_261⟩
theorem fl_X10_62 : FL RX10 62 10 7 := ⟨_, _, _, _, cl_X10, by decide, tw_262⟩
theorem fl_X10_70 : FL RX10 70 10 8 := ⟨_, _, _, _, cl_X10, by decide, tw_263⟩
theorem fl_X10_77 : FL RX10 77 10 9 := ⟨_, _, _, _, cl_X10, by decide, tw_264⟩
theorem fl_X10_84 : FL RX10 84 10 10 := ⟨_, _, _, _, cl_X10, by decide, tw_265⟩
theorem fl_X0_9 : FL RX0 9 0 1 := ⟨_, _, _, _, cl_X0, by decide, tw_53⟩
theorem fl_X0_13 : FL RX0 13 0 2 := ⟨_, _, _, _, cl_X0, by decide, tw_55⟩
theorem fl_X0_16 : FL RX0 16 0 3 := ⟨_, _, _, _, cl_X0, by decide, tw_57⟩
theorem fl_X0_19 : FL RX0 19 0 4 := ⟨_, _, _, _, cl_X0, by decide, tw_59⟩
theorem fl_X0_22 : FL RX0 22 0 5 := ⟨_, _, _, _, cl_X0, by decide, tw_61⟩
theorem fl_X0_25 : FL RX0 25 0 6 := ⟨_, _, _, _, cl_X0, by decide, tw_63⟩
theorem fl_X0_29 : FL RX0 29 0 7 := ⟨_, _, _, _, cl_X0, by decide, tw_65⟩
theorem fl_X0_33 : FL RX0 33 0 8 := ⟨_, _, _, _, cl_X0, by decide, tw_67⟩
theorem fl_X0_36 : FL RX0 36 0 0 := ⟨_, _, _, _, cl_X0, by decide, tw_52⟩
theorem fp_X0_36 : FP RX0 36 0 0 .int := ⟨_, _, _, _, cl_X0, by decide, tw_52, rfl, by decide +kernel⟩
theorem fl_X1_9 : FL RX1 9 1 0 := ⟨_, _, _, _, cl_X1, by decide, tw_238⟩
theorem fl_X1_15 : FL RX1 15 1 1 := ⟨_, _, _, _, cl_X1, by decide, tw_239⟩
theorem fp_X1_15 : FP RX1 15 1 1 .int := ⟨_, _, _, _, cl_X1, by decide, tw_239, rfl, by decide +kernel⟩
theorem fl_X2_9 : FL RX2 9 2 3 := ⟨_, _, _, _, cl_X2, by decide, tw_100⟩
theorem fp_X2_9 : FP RX2 9 2 3 .int := ⟨_, _, _, _, cl_X2, by decide, tw_100, rfl, by decide +kernel⟩
theorem fl_X2_15 : FL RX2 15 2 0 := ⟨_, _, _, _, cl_X2, by decide, tw_97⟩
theorem fl_X2_19 : FL RX2 19 2 1 := ⟨_, _, _, _, cl_X2, by decide, tw_98⟩
theorem fl_X2_23 : FL RX2 23 2 2 := ⟨_, _, _, _, cl_X2, by decide, tw_99⟩
theorem fp_X2_23 : FP RX2 23 2 2 .int := ⟨_, _, _, _, cl_X2, by decide, tw_99, rfl, by decide +kernel⟩
theorem fl_X3_11 : FL RX3 11 3 0 := ⟨_, _, _, _, cl_X3, by decide, tw_192⟩
theorem fl_X3_21 : FL RX3 21 3 1 := ⟨_, _, _, _, cl_X3, by decide, tw_193⟩
theorem fp_X3_21 : FP RX3 21 3 1 .int := ⟨_, _, _, _, cl_X3, by decide, tw_193, rfl, by decide +kernel⟩
theorem fl_X4_12 : FL RX4 12 4 1 := ⟨_, _, _, _, cl_X4, by decide, tw_200⟩
theorem fl_X4_18 : FL RX4 18 4 2 := ⟨_, _, _, _, cl_X4, by decide, tw_201⟩
theorem fl_X4_21 : FL RX4 21 4 3 := ⟨_, _, _, _, cl_X4, by decide, tw_202⟩
theorem fl_X4_25 : FL RX4 25 4 0 := ⟨_, _, _, _, cl_X4, by decide, tw_199⟩
theorem fl_X4_52 : FL RX4 52 4 4 := ⟨_, _, _, _, cl_X4, by decide, tw_203⟩
theorem fp_X4_52 : FP RX4 52 4 4 .int := ⟨_, _, _, _, cl_X4, by decide, tw_203, rfl, by decide +kernel⟩
theorem fn_X4_72 : FN RX4 72 0 1 := ⟨_, _, _, _, "NumberWords", cl_X0, by decide, by decide +kernel⟩
theorem fn_X4_75 : FN RX4 75 0 2 := ⟨_, _, _, _, "NumberWords", cl_X0, by decide, by decide +kernel⟩
theorem fn_X4_81 : FN RX4 81 0 3 := ⟨_, _, _, _, "NumberWords", cl_X0, by decide, by decide +kernel⟩
theorem fn_X4_84 : FN RX4 84 0 4 := ⟨_, _, _, _, "NumberWords", cl_X0, by decide, by decide +kernel⟩
theorem fn_X4_87 : FN RX4 87 0 6 := ⟨_, _, _, _, "NumberWords", cl_X0, by decide, by decide +kernel⟩
theorem fn_X4_91 : FN RX4 91 0 5 := ⟨_, _, _, _, "NumberWords", cl_X0, by decide, by decide +kernel⟩
theorem fn_X4_94 : FN RX4 94 0 7 := ⟨_, _, _, _, "NumberWords", cl_X0, by decide, by decide +kernel⟩
theorem fn_X4_98 : FN RX4 98 0 8 := ⟨_, _, _, _, "NumberWords", cl_X0, by decide, by decide +kernel⟩
theorem fl_X5_9 : FL RX5 9 5 0 := ⟨_, _, _, _, cl_X5, by decide, tw_221⟩
theorem fl_X5_15 : FL RX5 15 5 1 := ⟨_, _, _, _, cl_X5, by decide, tw_222⟩
theorem fl_X6_15 : FL RX6 15 6 0 := ⟨_, _, _, _, cl_X6, by decide, tw_126⟩
theorem fl_X7_11 : FL RX7 11 7 0 := ⟨_, _, _, _, cl_X7, by decide, tw_251⟩
theorem fl_X8_11 : FL RX8 11 8 0 := ⟨_, _, _, _, cl_X8, by decide, tw_35⟩
theorem fl_X8_15 : FL RX8 15 8 1 := ⟨_, _, _, _, cl_X8, by decide, tw_36⟩
theorem fp_X8_15 : FP RX8 15 8 1 .int := ⟨_, _, _, _, cl_X8, by decide, tw_36, rfl, by decide +kernel⟩
theorem fl_X8_19 : FL RX8 19 8 2 := ⟨_, _, _, _, cl_X8, by decide, tw_37⟩
theorem fp_X8_19 : FP RX8 19 8 2 .int := ⟨_, _, _, _, cl_X8, by decide, tw_37, rfl, by decide +kernel⟩
theorem fl_X9_14 : FL RX9 14 9 2 := ⟨_, _, _, _, cl_X9, by decide, tw_139⟩
theorem fl_X9_20 : FL RX9 20 9 3 := ⟨_, _, _, _, cl_X9, by decide, tw_140⟩
theorem fl_X9_23 : FL RX9 23 9 4 := ⟨_, _, _, _, cl_X9, by decide, tw_141⟩
theorem fl_X9_27 : FL RX9 27 9 5 := ⟨_, _, _, _, cl_X9, by decide, tw_142⟩
theorem fl_X9_30 : FL RX9 30 9 6 := ⟨_, _, _, _, cl_X9, by decide, tw_143⟩
theorem fl_X9_33 : FL RX9 33 9 7 := ⟨_, _, _, _, cl_X9, by decide, tw_144⟩
theorem fl_X9_36 : FL RX9 36 9 8 := ⟨_, _, _, _, cl_X9, by decide, tw_145⟩
theorem fl_X9_42 : FL RX9 42 9 0 := ⟨_, _, _, _, cl_X9, by decide, tw_137⟩
theorem fp_X9_42 : FP RX9 42 9 0 .int := ⟨_, _, _, _, cl_X9, by decide, tw_137, rfl, by decide +kernel⟩
theorem fl_X9_46 : FL RX9 46 9 1 := ⟨_, _, _, _, cl_X9, by decide, tw_138⟩
theorem fp_X9_46 : FP RX9 46 9 1 .int := ⟨_, _, _, _, cl_X9, by decide, tw_138, rfl, by decide +kernel⟩
theorem fl_X9_55 : FL RX9 55 9 9 := ⟨_, _, _, _, cl_X9, by decide, tw_146⟩
theorem fp_X9_55 : FP RX9 55 9 9 .boolean := ⟨_, _, _, _, cl_X9, by decide, tw_146, rfl, by decide +kernel⟩
theorem fl_X9_59 : FL RX9 59 9 10 := ⟨_, _, _, _, cl_X9, by decide, tw_147⟩
theorem fp_X9_59 : FP RX9 59 9 10 .boolean := ⟨_, _, _, _, cl_X9, by decide, tw_147, rfl, by decide +kernel⟩
theorem fl_X9_132 : FL RX9 132 9 11 := ⟨_, _, _, _, cl_X9, by decide, tw_148⟩
theorem fp_X9_132 : FP RX9 132 9 11 .int := ⟨_, _, _, _, cl_X9, by decide, tw_148, rfl, by decide +kernel⟩
theorem fl_X9_135 : FL RX9 135 9 12 := ⟨_, _, _, _, cl_X9, by decide, tw_149⟩
theorem fp_X9_135 : FP RX9 135 9 12 .int := ⟨_, _, _, _, cl_X9, by decide, tw_149, rfl, by decide +kernel⟩
theorem fl_X9_138 : FL RX9 138 9 13 := ⟨_, _, _, _, cl_X9, by decide, tw_150⟩
theorem fp_X9_138 : FP RX9 138 9 13 .int := ⟨_, _, _, _, cl_X9, by decide, tw_150, rfl, by decide +kernel⟩
theorem fl_X11_7 : FL RX11 7 11 0 := ⟨_, _, _, _, cl_X11, by decide, tw_891⟩
theorem fl_X11_13 : FL RX11 13 11 1 := ⟨_, _, _, _, cl_X11, by decide, tw_892⟩
theorem fl_X11_17 : FL RX11 17 11 2 := ⟨_, _, _, _, cl_X11, by decide, tw_893⟩
theorem fl_X11_20 : FL RX11 20 11 3 := ⟨_, _, _, _, cl_X11, by decide, tw_894⟩
theorem fl_X11_23 : FL RX11 23 11 4 := ⟨_, _, _, _, cl_X11, by decide, tw_895⟩
theorem fl_X11_26 : FL RX11 26 11 5 := ⟨_, _, _, _, cl_X11, by decide, tw_896⟩
theorem fl_X11_29 : FL RX11 29 11 6 := ⟨_, _, _, _, cl_X11, by decide, tw_897⟩
theorem fl_X11_32 : FL RX11 32 11 7 := ⟨_, _, _, _, cl_X11, by decide, tw_898⟩
theorem fl_X11_35 : FL RX11 35 11 8 := ⟨_, _, _, _, cl_X11, by decide, tw_899⟩
theorem fl_X11_38 : FL RX11 38 11 9 := ⟨_, _, _, _, cl_X11, by decide, tw_900⟩
theorem fl_X11_41 : FL RX11 41 11 10 := ⟨_, _, _, _, cl_X11, by decide, tw_901⟩
theorem fl_X11_44 : FL RX11 44 11 11 := ⟨_, _, _, _, cl_X11, by decide, tw_902⟩
theorem fl_X11_48 : FL RX11 48 11 12 := ⟨_, _, _, _, cl_X11, by decide, tw_903⟩
theorem fl_X11_51 : FL RX11 51 11 13 := ⟨_, _, _, _, cl_X11, by decide, tw_904⟩
theorem fl_X11_54 : FL RX11 54 11 14 := ⟨_, _, _, _, cl_X11, by decide, tw_905⟩
theorem fl_X11_57 : FL RX11 57 11 15 := ⟨_, _, _, _, cl_X11, by decide, tw_906⟩
theorem fl_X11_60 : FL RX11 60 11 17 := ⟨_, _, _, _, cl_X11, by decide, tw_908⟩
theorem fp_X11_60 : FP RX11 60 11 17 .int := ⟨_, _, _, _, cl_X11, by decide, tw_908, rfl, by decide +kernel⟩
theorem fl_X11_64 : FL RX11 64 11 20 := ⟨_, _, _, _, cl_X11, by decide, tw_911⟩
theorem fl_X11_67 : FL RX11 67 11 21 := ⟨_, _, _, _, cl_X11, by decide, tw_912⟩
theorem fl_X11_70 : FL RX11 70 11 22 := ⟨_, _, _, _, cl_X11, by decide, tw_913⟩
theorem fl_X11_73 : FL RX11 73 11 23 := ⟨_, _, _, _, cl_X11, by decide, tw_914⟩
theorem fl_X11_76 : FL RX11 76 11 24 := ⟨_, _, _, _, cl_X11, by decide, tw_915⟩
theorem fl_X11_79 : FL RX11 79 11 25 := ⟨_, _, _, _, cl_X11, by decide, tw_916⟩
theorem fl_X11_82 : FL RX11 82 11 26 := ⟨_, _, _, _, cl_X11, by decide, tw_917⟩
theorem fl_X11_85 : FL RX11 85 11 27 := ⟨_, _, _, _, cl_X11, by decide, tw_918⟩
theorem fl_X11_88 : FL RX11 88 11 28 := ⟨_, _, _, _, cl_X11, by decide, tw_919⟩
theorem fl_X11_91 : FL RX11 91 11 32 := ⟨_, _, _, _, cl_X11, by decide, tw_923⟩
theorem fl_X11_94 : FL RX11 94 11 34 := ⟨_, _, _, _, cl_X11, by decide, tw_925⟩
theorem fl_X11_97 : FL RX11 97 11 38 := ⟨_, _, _, _, cl_X11, by decide, tw_929⟩
theorem fl_X11_100 : FL RX11 100 11 39 := ⟨_, _, _, _, cl_X11, by decide, tw_930⟩
theorem fl_X11_103 : FL RX11 103 11 40 := ⟨_, _, _, _, cl_X11, by decide, tw_931⟩
theorem fl_X11_106 : FL RX11 106 11 41 := ⟨_, _, _, _, cl_X11, by decide, tw_932⟩
theorem fl_X11_109 : FL RX11 109 11 43 := ⟨_, _, _, _, cl_X11, by decide, tw_934⟩
theorem fl_X11_112 : FL RX11 112 11 44 := ⟨_, _, _, _, cl_X11, by decide, tw_935⟩
theorem fl_X11_115 : FL RX11 115 11 45 := ⟨_, _, _, _, cl_X11, by decide, tw_936⟩
theorem fl_X11_118 : FL RX11 118 11 46 := ⟨_, _, _, _, cl_X11, by decide, tw_937⟩
theorem fl_X11_131 : FL RX11 131 11 16 := ⟨_, _, _, _, cl_X11, by decide, tw_907⟩
theorem fp_X11_131 : FP RX11 131 11 16 .int := ⟨_, _, _, _, cl_X11, by decide, tw_907, rfl, by decide +kernel⟩
theorem fl_X11_136 : FL RX11 136 11 18 := ⟨_, _, _, _, cl_X11, by decide, tw_909⟩
theorem fp_X11_136 : FP RX11 136 11 18 .int := ⟨_, _, _, _, cl_X11, by decide, tw_909, rfl, by decide +kernel⟩
theorem fl_X11_151 : FL RX11 151 11 30 := ⟨_, _, _, _, cl_X11, by decide, tw_921⟩
theorem fp_X11_151 : FP RX11 151 11 30 .int := ⟨_, _, _, _, cl_X11, by decide, tw_921, rfl, by decide +kernel⟩
theorem fl_X11_154 : FL RX11 154 11 29 := ⟨_, _, _, _, cl_X11, by decide, tw_920⟩
theorem fp_X11_154 : FP RX11 154 11 29 .int := ⟨_, _, _, _, cl_X11, by decide, tw_920, rfl, by decide +kernel⟩
theorem fl_X11_161 : FL RX11 161 11 31 := ⟨_, _, _, _, cl_X11, by decide, tw_922⟩
theorem fp_X11_161 : FP RX11 161 11 31 .int := ⟨_, _, _, _, cl_X11, by decide, tw_922, rfl, by decide +kernel⟩
theorem fl_X11_185 : FL RX11 185 11 19 := ⟨_, _, _, _, cl_X11, by decide, tw_910⟩
theorem fp_X11_185 : FP RX11 185 11 19 .int := ⟨_, _, _, _, cl_X11, by decide, tw_910, rfl, by decide +kernel⟩
theorem fl_X11_219 : FL RX11 219 11 33 := ⟨_, _, _, _, cl_X11, by decide, tw_924⟩
theorem fp_X11_219 : FP RX11 219 11 33 .int := ⟨_, _, _, _, cl_X11, by decide, tw_924, rfl, by decide +kernel⟩
theorem fl_X11_238 : FL RX11 238 11 35 := ⟨_, _, _, _, cl_X11, by decide, tw_926⟩
theorem fp_X11_238 : FP RX11 238 11 35 .boolean := ⟨_, _, _, _, cl_X11, by decide, tw_926, rfl, by decide +kernel⟩
theorem fl_X11_245 : FL RX11 245 11 42 := ⟨_, _, _, _, cl_X11, by decide, tw_933⟩
theorem fp_X11_245 : FP RX11 245 11 42 .int := ⟨_, _, _, _, cl_X11, by decide, tw_933, rfl, by decide +kernel⟩
theorem fl_X11_253 : FL RX11 253 11 36 := ⟨_, _, _, _, cl_X11, by decide, tw_927⟩
theorem fp_X11_253 : FP RX11 253 11 36 .int := ⟨_, _, _, _, cl_X11, by decide, tw_927, rfl, by decide +kernel⟩
theorem fl_X11_256 : FL RX11 256 11 37 := ⟨_, _, _, _, cl_X11, by decide, tw_928⟩
theorem fp_X11_256 : FP RX11 256 11 37 .int := ⟨_, _, _, _, cl_X11, by decide, tw_928, rfl, by decide +kernel⟩

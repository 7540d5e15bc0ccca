/-! ===== the two objects come to be: the first n cells stand, some references are still null ===== -/
abbrev zRf : Type := Nat → Nat → Option Nat
def setR (Rf : zRf) (a k r : Nat) : zRf := fun b j => if b = a ∧ j = k then some r else Rf b j
/-- what is not made yet is all 0 and null -/
def Fr (Rf : zRf) (n : Nat) (M : zM) : Prop := ∀ a, n ≤ a → (∀ j, M.1 a j = 0) ∧ (∀ j, M.2 a j = 0) ∧ ∀ j, Rf a j = none
theorem Fr.up {Rf : zRf} {n n' : Nat} {M : zM} (h : Fr Rf n M) (hn : n ≤ n') : Fr Rf n' M := fun a ha => h a (Nat.le_trans hn ha)
theorem Fr.setR {Rf : zRf} {n a k r : Nat} {M : zM} (h : Fr Rf n M) (ha : a < n) : Fr (setR Rf a k r) n M := fun b hb => ⟨(h b hb).1, (h b hb).2.1, fun j => by
  show (if b = a ∧ j = k then some r else Rf b j) = none
  rw [if_neg (fun q => by omega)]; exact (h b hb).2.2 j⟩
theorem Fr.zI {Rf : zRf} {n a k : Nat} {v : Int32} {M : zM} (h : Fr Rf n M) (ha : a < n) : Fr Rf n (zI M a k v) := fun b hb => ⟨fun j => by rw [zI_other (by omega)]; exact (h b hb).1 j, (h b hb).2.1, (h b hb).2.2⟩
def StG (G : Gl) (Rf : zRf) (n : Nat) (M : zM) (s : State) (H : Heap) (locs : List Loc) : Prop := va_P G.2.1 vwCl (wE G.1 G.2.2.1 Rf n M) H ∧ va_S (gA G) s.heap H locs ∧ H.size = G.1 + n ∧ G.1 ≤ s.heap.size
def PreG (G : Gl) (Rf : zRf) (n : Nat) (M : zM) (av : List Value) : Array Value → State → Prop := va_Pc av (fun U => va_P G.2.1 vwCl (wE G.1 G.2.2.1 Rf n M) U.heap ∧ va_K G.2.1 vwCl (tyL G.2.2.1) U ∧ XX G U U.heap ∧ U.heap.size = G.1 + n)
def PoG (G : Gl) (Rf : zRf) (n : Nat) (M : zM) : Array Value → State → Outcome → State → Prop := va_Qv (fun (_ : Unit) => True) (fun _ t => va_P G.2.1 vwCl (wE G.1 G.2.2.1 Rf n M) t.heap ∧ t.heap.size = G.1 + n) (gA G)
def rmC (f lo mc ms : Nat) : Room := { frames := f, cells := mc, slots := ms, locals := lo }
theorem PreG_blind {G : Gl} {Rf : zRf} {n : Nat} {M : zM} {av : List Value} : FrameBlind (PreG G Rf n M av) := by
  intro a U g mk h
  obtain ⟨h1, h2, h3, h4, h5⟩ := h
  exact ⟨h1, h2, va_K.moved (u := U) (U := U.calling g mk a) (Vm.Alike.refl U.vm) h3, XX_call h4, h5⟩
section CTE
variable {bs : Nat} {cy : Nat → ClassId} {Rf Rf' : zRf} {n a b c k r : Nat} {M M' : zM}
theorem wE_succ : wE bs cy Rf (n + 1) M = wE bs cy Rf n M ++ [(bs + n, ent bs cy Rf M n)] := by unfold wE; rw [List.range_succ, List.map_append]; rfl
theorem fldL_setR (hk : k < zF c) (ht : zT c k = false) : (fldL bs Rf M c a).set k (.ref (bs + r)) = fldL bs (setR Rf a k r) M c a := by
  unfold fldL
  apply List.ext_getElem?
  intro i
  rw [List.getElem?_set]
  by_cases e : k = i
  · subst e
    simp [hk, fld, ht, setR, va_rf]
  · rw [if_neg e]
    have hne : ¬ i = k := fun q => e q.symm
    by_cases hi : i < zF c
    · simp [hi, fld, setR, hne]
    · simp [hi]
theorem ent_setR (h : b ≠ a) : ent bs cy (setR Rf a k r) M b = ent bs cy Rf M b := by
  unfold ent fldL fld setR; simp [h]
theorem wE_setR (h : a < n) {x : Nat × va_E} (hx : (bs + a, ent bs cy (setR Rf a k r) M a) = x) : (wE bs cy Rf n M).set a x = wE bs cy (setR Rf a k r) n M := by
  subst hx
  unfold wE
  apply List.ext_getElem?
  intro i
  rw [List.getElem?_set]
  by_cases e : a = i
  · subst e
    simp [h]
  · rw [if_neg e]
    by_cases hi : i < n
    · simp [hi, ent_setR (fun q => e q.symm : i ≠ a)]
    · simp [hi]
theorem fldV (hF : ∀ j, M.1 a j = 0) (hR : ∀ j, Rf a j = none) {j : Nat} (hj : j < zF c) : vp_V (fldL bs Rf M c a) j = if zT c j = true then .int 0 else .null := by
  unfold vp_V fldL
  rw [List.getD_eq_getElem?_getD]
  simp [hj, fld, hF, hR, va_rf]
end CTE
section CTR
variable {G : Gl} {cc : ByteArray} {nL : Nat} {own : String} {p : Program} {l : Launch} {e : Env} {R : Room} {s : State} {m : MethodId} {args : Array Value} {below : List Frame} {meth : Method} {c : Code} {H : Heap} {locs : List Loc} {cells slots : Nat} {Q : State → Prop} {pc : Nat} {ls : Array Slot} {rest : List Value} {M M' : zM} {Rf : zRf} {n : Nat}
/-- a new cell behind the others -/
theorem StG.grown (hS : StG G Rf n M s H locs) {H1 : Heap} (z1 : H1.size = H.size + 1) (o1 : ∀ q : Nat, q < H.size → H1[q]? = H[q]?) (e1 : va_at G.2.1 vwCl (G.1 + n, ent G.1 G.2.2.1 Rf M n) H1) : StG G Rf (n + 1) M s H1 locs := by
  obtain ⟨hP, hs, hz, hb⟩ := hS
  refine ⟨?_, ⟨Nat.le_trans hs.1 (by omega), fun x h1 h2 => (o1 x (Nat.lt_of_lt_of_le h1 hs.1)).trans (hs.2.1 x h1 h2), hs.2.2⟩, by omega, hb⟩
  rw [wE_succ]
  refine (hP.kept (fun k x hx => o1 x.1 ((hP k x hx).lt))).app (fun k x hx => ?_)
  have hk : k < 1 := (List.getElem?_eq_some_iff.mp hx).1
  rw [show k = 0 by omega] at hx
  cases hx
  exact e1
theorem rG_new (C : Cx G cc nL own p s m args c) (hS : StG G Rf n M s H locs) {ci idx N : Nat} {Cn : String} {T : u_T} {ty0 : Nat → FieldType} (hc : CL ci Cn T N ty0) (hk : zK n = ci) (hF : Fr Rf n M) (w1 : Cond.classLink own idx Cn ∈ TG) (w2 : Cond.instantiable Cn N ∈ TG) (w3 : Cond.initialized Cn ∈ TG) (hd : ∀ j, j < N → defaultValue (ty0 j) = if zT ci j = true then Value.int 0 else Value.null) (hcs : cells + 1 ≤ R.cells ∧ slots + N ≤ R.slots) (hdg : decode cc pc = .ok (.new idx, 3))
    (kk : ∀ H1 : Heap, StG G Rf (n + 1) M s H1 locs → W p l e R s m args below meth c H1 locs (cells + 1) (slots + N) Q (F0 m (pc + 3) ls (.ref (G.1 + n) :: rest))) : W p l e R s m args below meth c H locs cells slots Q (F0 m pc ls rest) := by
  obtain ⟨hx, hb, hml, hown, hts, hK, hX⟩ := C
  obtain ⟨hcl, hin, hty, hnm, hN, h12⟩ := hc
  have hKn := hK.1 ci _ hcl
  refine W.newcK hx hb hown (hts _ w1) (hts _ w2) (hts _ w3) rfl hdg hcs.1 hcs.2 hKn.2.1 hS.2.2.1 fun H1 kC hkC e1 z1 o1 => ?_
  refine kk H1 (hS.grown (by rw [z1, hS.2.2.1]) (fun q h => o1 q (by rw [← hS.2.2.1]; exact h)) ?_)
  rw [ent_o hk h12]
  exact ⟨_, hcl, (u_born ty0 hts hin hKn hkC e1 hty).to (fun j hj => by rw [fldV (hF n (Nat.le_refl n)).1 (hF n (Nat.le_refl n)).2.2 (by rw [← hN]; exact hj)]; exact hd j hj)⟩
theorem rG_new_int (C : Cx G cc nL own p s m args c) (hS : StG G Rf n M s H locs) (hk : zK n = 12) (hF : Fr Rf n M) {N : Nat} {k : Int32} (w1 : Cond.arrayClass .int ∈ TG) (hn : ¬ k < 0) (hN : k.toNatClampNeg = N) (hz : zN n = N) (hby : N * 8 ≤ 536870912) (hcs : cells + 1 ≤ R.cells ∧ slots + N ≤ R.slots) (hdg : decode cc pc = .ok (.newarray .int, 2))
    (kk : ∀ H1 : Heap, StG G Rf (n + 1) M s H1 locs → W p l e R s m args below meth c H1 locs (cells + 1) (slots + N) Q (F0 m (pc + 2) ls (.ref (G.1 + n) :: rest))) : W p l e R s m args below meth c H locs cells slots Q (F0 m pc ls (.int k :: rest)) := by
  obtain ⟨hx, hb, hml, hown, hts, hK, hX⟩ := C
  refine va_newaK (atype := .int) hx hb (hts _ w1) rfl hdg rfl hn hN (Nat.le_trans (Nat.mul_le_mul_left _ (by decide)) hby) hcs.1 hcs.2 hS.2.2.1 fun H1 cA e1 z1 o1 hAr hNm => ?_
  have hcy : cA = G.2.2.1 0 := Option.some.inj (hNm.symm.trans (hK.2 0 _ rfl).2)
  subst hcy
  refine kk H1 (hS.grown (by rw [z1, hS.2.2.1]) (fun q h => o1 q (by rw [← hS.2.2.1]; exact h)) ?_)
  rw [ent_i hk]
  show H1[G.1 + n]? = some (vp_cell _ _)
  rw [e1, vp_cell_i, hz]
  congr 2
  funext j
  rw [(hF n (Nat.le_refl n)).1 j]
  rfl
theorem rG_new_byte (C : Cx G cc nL own p s m args c) (hS : StG G Rf n M s H locs) (hk : zK n = 13) (hF : Fr Rf n M) {N : Nat} {k : Int32} (w1 : Cond.arrayClass .byte ∈ TG) (hn : ¬ k < 0) (hN : k.toNatClampNeg = N) (hz : zN n = N) (hby : N * 8 ≤ 536870912) (hcs : cells + 1 ≤ R.cells ∧ slots + N ≤ R.slots) (hdg : decode cc pc = .ok (.newarray .byte, 2))
    (kk : ∀ H1 : Heap, StG G Rf (n + 1) M s H1 locs → W p l e R s m args below meth c H1 locs (cells + 1) (slots + N) Q (F0 m (pc + 2) ls (.ref (G.1 + n) :: rest))) : W p l e R s m args below meth c H locs cells slots Q (F0 m pc ls (.int k :: rest)) := by
  obtain ⟨hx, hb, hml, hown, hts, hK, hX⟩ := C
  refine va_newaK (atype := .byte) hx hb (hts _ w1) rfl hdg rfl hn hN (Nat.le_trans (Nat.mul_le_mul_left _ (by decide)) hby) hcs.1 hcs.2 hS.2.2.1 fun H1 cA e1 z1 o1 hAr hNm => ?_
  have hcy : cA = G.2.2.1 1 := Option.some.inj (hNm.symm.trans (hK.2 1 _ rfl).2)
  subst hcy
  refine kk H1 (hS.grown (by rw [z1, hS.2.2.1]) (fun q h => o1 q (by rw [← hS.2.2.1]; exact h)) ?_)
  rw [ent_b hk]
  show H1[G.1 + n]? = some (vp_cell _ _)
  rw [e1, vp_cell_i, hz]
  congr 2
  funext j
  rw [(hF n (Nat.le_refl n)).1 j]
  rfl
theorem rG_new_boolean (C : Cx G cc nL own p s m args c) (hS : StG G Rf n M s H locs) (hk : zK n = 14) (hF : Fr Rf n M) {N : Nat} {k : Int32} (w1 : Cond.arrayClass .boolean ∈ TG) (hn : ¬ k < 0) (hN : k.toNatClampNeg = N) (hz : zN n = N) (hby : N * 8 ≤ 536870912) (hcs : cells + 1 ≤ R.cells ∧ slots + N ≤ R.slots) (hdg : decode cc pc = .ok (.newarray .boolean, 2))
    (kk : ∀ H1 : Heap, StG G Rf (n + 1) M s H1 locs → W p l e R s m args below meth c H1 locs (cells + 1) (slots + N) Q (F0 m (pc + 2) ls (.ref (G.1 + n) :: rest))) : W p l e R s m args below meth c H locs cells slots Q (F0 m pc ls (.int k :: rest)) := by
  obtain ⟨hx, hb, hml, hown, hts, hK, hX⟩ := C
  refine va_newaK (atype := .boolean) hx hb (hts _ w1) rfl hdg rfl hn hN (Nat.le_trans (Nat.mul_le_mul_left _ (by decide)) hby) hcs.1 hcs.2 hS.2.2.1 fun H1 cA e1 z1 o1 hAr hNm => ?_
  have hcy : cA = G.2.2.1 2 := Option.some.inj (hNm.symm.trans (hK.2 2 _ rfl).2)
  subst hcy
  refine kk H1 (hS.grown (by rw [z1, hS.2.2.1]) (fun q h => o1 q (by rw [← hS.2.2.1]; exact h)) ?_)
  rw [ent_z hk]
  show H1[G.1 + n]? = some (vp_cell _ _)
  rw [e1, vp_cell_i, hz]
  congr 2
  funext j
  rw [(hF n (Nat.le_refl n)).1 j]
  rfl
theorem rG_new_long (C : Cx G cc nL own p s m args c) (hS : StG G Rf n M s H locs) (hk : zK n = 15) (hF : Fr Rf n M) {N : Nat} {k : Int32} (w1 : Cond.arrayClass .long ∈ TG) (hn : ¬ k < 0) (hN : k.toNatClampNeg = N) (hz : zN n = N) (hby : N * 8 ≤ 536870912) (hcs : cells + 1 ≤ R.cells ∧ slots + N ≤ R.slots) (hdg : decode cc pc = .ok (.newarray .long, 2))
    (kk : ∀ H1 : Heap, StG G Rf (n + 1) M s H1 locs → W p l e R s m args below meth c H1 locs (cells + 1) (slots + N) Q (F0 m (pc + 2) ls (.ref (G.1 + n) :: rest))) : W p l e R s m args below meth c H locs cells slots Q (F0 m pc ls (.int k :: rest)) := by
  obtain ⟨hx, hb, hml, hown, hts, hK, hX⟩ := C
  refine va_newaK (atype := .long) hx hb (hts _ w1) rfl hdg rfl hn hN (Nat.le_trans (Nat.mul_le_mul_left _ (by decide)) hby) hcs.1 hcs.2 hS.2.2.1 fun H1 cA e1 z1 o1 hAr hNm => ?_
  have hcy : cA = G.2.2.1 3 := Option.some.inj (hNm.symm.trans (hK.2 3 _ rfl).2)
  subst hcy
  refine kk H1 (hS.grown (by rw [z1, hS.2.2.1]) (fun q h => o1 q (by rw [← hS.2.2.1]; exact h)) ?_)
  rw [ent_l hk]
  show H1[G.1 + n]? = some (vp_cell _ _)
  rw [e1, vp_cell_l, hz]
  congr 2
  funext j
  rw [(hF n (Nat.le_refl n)).2.1 j]
  rfl
theorem rG_newq (C : Cx G cc nL own p s m args c) (hS : StG G Rf n M s H locs) (hk : zK n = 16) (hF : Fr Rf n M) {idx N : Nat} {k : Int32} (w1 : Cond.classLink own idx "NumberWords$Tongue" ∈ TG) (hao : va_AO "NumberWords$Tongue" s) (hn : ¬ k < 0) (hN : k.toNatClampNeg = N) (hz : zN n = N) (hby : N * 4 ≤ 536870912) (hcs : cells + 1 ≤ R.cells ∧ slots + N ≤ R.slots) (hdg : decode cc pc = .ok (.anewarray idx, 3))
    (kk : ∀ H1 : Heap, StG G Rf (n + 1) M s H1 locs → W p l e R s m args below meth c H1 locs (cells + 1) (slots + N) Q (F0 m (pc + 3) ls (.ref (G.1 + n) :: rest))) : W p l e R s m args below meth c H locs cells slots Q (F0 m pc ls (.int k :: rest)) := by
  subst hN
  obtain ⟨hx, hb, hml, hown, hts, hK, hX⟩ := C
  refine W.anew hx hb hown (hts _ w1) (va_AO.use hao) rfl hdg rfl hn hby hcs.1 hcs.2 fun cA kA comp f1 f2 f3 f4 => ?_
  obtain ⟨kA', comp', g2, g3, g4, g1⟩ := (hK.2 4 _ rfl).2
  have hcy : cA = G.2.2.1 4 := Option.some.inj (f1.symm.trans g1)
  subst hcy
  have hz' := hS.2.2.1
  rw [hz']
  refine kk _ (hS.grown (Array.size_push ..) (fun q hq => by rw [Array.getElem?_push, if_neg (Nat.ne_of_lt hq)]) ?_)
  rw [ent_r hk]
  show (H.push _)[G.1 + n]? = some (vp_cell _ _)
  have ef : (fun j => va_rf ((Rf n j).map (fun r => G.1 + r))) = fun _ => Value.null := by
    funext j
    simp [(hF n (Nat.le_refl n)).2.2 j, va_rf]
  rw [← hz', Array.getElem?_push_size, vp_cell_q, ef, hz, ← arrV_new]
theorem rG_gR (C : Cx G cc nL own p s m args c) (hS : StG G Rf n M s H locs) {idx ci k a r : Nat} (hf : FL own idx ci k) (ht : zT ci k = false) (hk : zK a = ci) (ha : a < n) (hr : Rf a k = some r) (hdg : decode cc pc = .ok (.getfield idx, 3))
    (kk : W p l e R s m args below meth c H locs cells slots Q (F0 m (pc + 3) ls (.ref (G.1 + r) :: rest))) : W p l e R s m args below meth c H locs cells slots Q (F0 m pc ls (.ref (G.1 + a) :: rest)) := by
  obtain ⟨hx, hb, hml, hown, hts, hK, hX⟩ := C
  obtain ⟨Cn, T, N, ty0, ⟨hc, hin, hty, hnm, hN, h12⟩, hkN, hlk⟩ := hf
  exact va_get (C := Cn) (T := T) (N := N) (ref := (T k).1) hx hb hts hin hown hK hS.1 a ((wE_get ha).trans (by rw [ent_o hk h12])) hc k hkN (hts _ hlk) (fun _ h => h) (fldL_getR (by rw [← hN]; exact hkN) ht hr) hdg kk
/-- a field is written: the cell's new list of fields, the size stays -/
theorem rG_pw (C : Cx G cc nL own p s m args c) (hS : StG G Rf n M s H locs) {idx ci k a N : Nat} {Cn : String} {T : u_T} {ty0 : Nat → FieldType} {ty : FieldType} {v : Value} (hc : CL ci Cn T N ty0) (hkN : k < N) (hlk : Cond.fieldLink own idx (T k).1 (T k).2.1 (T k).2.2.1 ∈ TG) (hfin : (T k).2.2.2 = false ∨ (T k).2.2.2 = true ∧ meth.name = "<init>" ∧ (T k).1 = own) (hpd : parseFieldDescriptor (T k).2.2.1 = some ty) (hn : narrow ty v = v) (hfit : fits ty v = true) (hk : zK a = ci) (ha : a < n) (hdg : decode cc pc = .ok (.putfield idx, 3))
    (kk : ∀ (H1 : Heap) (locs1 : List Loc), va_P G.2.1 vwCl ((wE G.1 G.2.2.1 Rf n M).set a (G.1 + a, .inr (ci, (fldL G.1 Rf M ci a).set k v))) H1 → va_S (gA G) s.heap H1 locs1 → H1.size = G.1 + n → W p l e R s m args below meth c H1 locs1 cells slots Q (F0 m (pc + 3) ls rest)) : W p l e R s m args below meth c H locs cells slots Q (F0 m pc ls (v :: .ref (G.1 + a) :: rest)) := by
  obtain ⟨hx, hb, hml, hown, hts, hK, hX⟩ := C
  obtain ⟨hcl, hin, hty, hnm, hN, h12⟩ := hc
  obtain ⟨hP, hs, hz, hbs⟩ := hS
  have he : (wE G.1 G.2.2.1 Rf n M)[a]? = some (G.1 + a, .inr (ci, fldL G.1 Rf M ci a)) := (wE_get ha).trans (by rw [ent_o hk h12])
  have hap := va_apart (own := own) hts hin ty0 hty hnm hK hcl
  obtain ⟨r, h1, cell, q1, q2, q3, q4⟩ := hP a _ he
  have hr : r = (Cn, T, N) := Option.some.inj (h1.symm.trans hcl)
  subst hr
  obtain ⟨hSl, hfc, kC, hkC, hkind⟩ := hK.1 ci _ hcl
  obtain ⟨cf, kf, fi, f, hi, hsl⟩ := hSl k hkN
  have hst := (u_facts hfc hkC (u_lays hts hin hkN) hi).1
  have hlay := hts _ (hin _ (u_in_lay hkN))
  unfold u_lay at hlay
  have fin : ∀ (H' : Heap) (locs' : List Loc), H'[G.1 + a]? = some (cell.setSlot (G.2.1.2 ci k) v) → H'.size = H.size → (∀ q, q ≠ G.1 + a → H'[q]? = H[q]?) → va_S (gA G) s.heap H' locs' → W p l e R s m args below meth c H' locs' cells slots Q (F0 m (pc + 3) ls rest) := fun H' locs' e1 e2 e3 e4 =>
    kk H' locs' (hP.set wE_D he ⟨_, hcl, t_OB.to (V := updV (vp_V (fldL G.1 Rf M ci a)) k v) ⟨_, e1, q2, q3, t_set q4 hap hkN v⟩ (fun j _ => vp_updV_set (by rw [fldL_len, ← hN]; exact hkN) v j)⟩ e3) e4 (e2.trans hz)
  rcases hfin with hf | ⟨hf, hinit, hdec⟩
  · rw [if_neg (by rw [hf]; decide)] at hlay
    have h6 := u_store hfc hkC hkind hlay hi hpd hn hfit
    refine W.putK hx hb (f := f) ⟨hown, hts _ hlk, ⟨_, _, _, hi⟩, hst⟩ (by rw [q2]; exact h6) q1 q3 (by rw [hsl]; exact k2_hasslot (q4 k hkN)) rfl rfl hdg fun H' e1 e2 e3 => ?_
    rw [hsl] at e1 ⊢
    exact fin H' _ e1 e2 e3 (hs.put e2 e3 (Nat.le_add_right _ _))
  · rw [if_pos hf] at hlay
    have hcf : m.cls = cf := by
      obtain ⟨_, _, c', _, _, _, -, -, hf', -, -, -, hown2, -⟩ := Cond.laysFinal_spec hlay
      have e1 : c' = cf := by have := hi.symm.trans hf'; simp at this; exact this.1.symm
      rw [hdec] at hown2
      rw [← e1]; exact Option.some.inj (hown.symm.trans hown2)
    have h6 := u_fits hfc hkC hkind (Or.inr hlay) hi hpd hn hfit
    refine W.putFinK hx hb hown (hts _ hlk) hi hst hcf hinit (by rw [q2]; exact h6) q1 q3 (by rw [hsl]; exact k2_hasslot (q4 k hkN)) rfl rfl hdg fun H' e1 e2 e3 => ?_
    rw [hsl] at e1 ⊢
    exact fin H' _ e1 e2 e3 (hs.put e2 e3 (Nat.le_add_right _ _))
theorem rG_put {ty : FieldType} {v : Int32} (C : Cx G cc nL own p s m args c) (hS : StG G Rf n M s H locs) {idx ci k a : Nat} (hf : FP own idx ci k ty) (ht : zT ci k = true) (hn : narrow ty (.int v) = .int v) (hfit : fits ty (.int v) = true) (hk : zK a = ci) (ha : a < n) (he : M' = zI M a k v) (hdg : decode cc pc = .ok (.putfield idx, 3))
    (kk : ∀ (H1 : Heap) (locs1 : List Loc), StG G Rf n M' s H1 locs1 → W p l e R s m args below meth c H1 locs1 cells slots Q (F0 m (pc + 3) ls rest)) : W p l e R s m args below meth c H locs cells slots Q (F0 m pc ls (.int v :: .ref (G.1 + a) :: rest)) := by
  obtain ⟨Cn, T, N, ty0, hc, hkN, hlk, hfin, hpd⟩ := hf
  have hkF : k < zF ci := by rw [← hc.2.2.2.2.1]; exact hkN
  refine rG_pw C hS hc hkN hlk (Or.inl hfin) hpd hn hfit hk ha hdg (fun H1 locs1 hP1 hS1 hz1 => ?_)
  rw [fldL_set hkF ht, wE_set ha (M' := M') (by rw [he, ent_o hk hc.2.2.2.2.2]) (fun b hb => by rw [he]; exact ent_same (zI_other hb) rfl)] at hP1
  exact kk H1 locs1 ⟨hP1, hS1, hz1, hS.2.2.2⟩
/-- a final reference is set by its constructor -/
theorem rG_pR (C : Cx G cc nL own p s m args c) (hS : StG G Rf n M s H locs) {idx ci k a r N : Nat} {Cn : String} {T : u_T} {ty0 : Nat → FieldType} (hc : CL ci Cn T N ty0) (hkN : k < N) (hlk : Cond.fieldLink own idx (T k).1 (T k).2.1 (T k).2.2.1 ∈ TG) (hfin : (T k).2.2.2 = true) (hinit : meth.name = "<init>") (hdec : (T k).1 = own) {ty : FieldType} (hpd : parseFieldDescriptor (T k).2.2.1 = some ty) (hn : narrow ty (.ref (G.1 + r)) = .ref (G.1 + r)) (hfit : fits ty (.ref (G.1 + r)) = true) (ht : zT ci k = false) (hk : zK a = ci) (ha : a < n) (hdg : decode cc pc = .ok (.putfield idx, 3))
    (kk : ∀ (H1 : Heap) (locs1 : List Loc), StG G (setR Rf a k r) n M s H1 locs1 → W p l e R s m args below meth c H1 locs1 cells slots Q (F0 m (pc + 3) ls rest)) : W p l e R s m args below meth c H locs cells slots Q (F0 m pc ls (.ref (G.1 + r) :: .ref (G.1 + a) :: rest)) := by
  have hkF : k < zF ci := by rw [← hc.2.2.2.2.1]; exact hkN
  refine rG_pw C hS hc hkN hlk (Or.inr ⟨hfin, hinit, hdec⟩) hpd hn hfit hk ha hdg (fun H1 locs1 hP1 hS1 hz1 => ?_)
  rw [fldL_setR hkF ht, wE_setR ha (by rw [ent_o hk hc.2.2.2.2.2])] at hP1
  exact kk H1 locs1 ⟨hP1, hS1, hz1, hS.2.2.2⟩
theorem wE_aiG {a : Nat} (hk : zK a = 12) (ha : a < n) : (wE G.1 G.2.2.1 Rf n M)[a]? = some (G.1 + a, .inl (G.2.2.1 0, zN a, .inl (M.1 a))) := (wE_get ha).trans (by rw [ent_i hk])
theorem rG_iast (C : Cx G cc nL own p s m args c) (hS : StG G Rf n M s H locs) {a N : Nat} {i v : Int32} (hk : zK a = 12) (ha : a < n) (hn : zN a = N) (hi : inb i N = true) (he : M' = zI M a i.toNatClampNeg v) (hdg : decode cc pc = .ok (.iastore, 1))
    (kk : ∀ (H1 : Heap) (locs1 : List Loc), StG G Rf n M' s H1 locs1 → W p l e R s m args below meth c H1 locs1 cells slots Q (F0 m (pc + 1) ls rest)) : W p l e R s m args below meth c H locs cells slots Q (F0 m pc ls (.int v :: .int i :: .ref (G.1 + a) :: rest)) := by
  subst hn
  obtain ⟨hP, hs, hz, hbs⟩ := hS
  have hcell := hP a _ (wE_aiG hk ha)
  refine W.iast C.1 C.2.1 hcell ((C.2.2.2.2.2.1.2 0 _ rfl).1 (zN a) (fun j => .int (M.1 a j))) (fun q => by cases q) (by show ¬ (i < 0 ∨ (arrV _ _ _).slots.size ≤ _); rw [arrV_size]; exact inb_in hi) rfl rfl hdg fun H1 e1 z1 o1 => ?_
  refine kk H1 _ ⟨?_, hs.put z1 o1 (Nat.le_add_right _ _), z1.trans hz, hbs⟩
  rw [← wE_set ha (M := M) (M' := M') rfl (fun b hb => by rw [he]; exact ent_same (zI_other hb) rfl)]
  refine hP.set wE_D (wE_aiG hk ha) ?_ o1
  rw [ent_i hk, he, zI_same]
  show H1[G.1 + a]? = some (vp_cell _ _)
  rw [e1, vp_cell_i, vp_cell_i, arrV_store]
  congr 2
  funext q
  by_cases hq : q = i.toNatClampNeg
  · subst hq; simp [updV, upd]
  · simp [updV, upd, hq]
theorem rG_alen (C : Cx G cc nL own p s m args c) (hS : StG G Rf n M s H locs) {a N : Nat} {v : Int32} (hk : zK a = 12) (ha : a < n) (hn : zN a = N) (hv : Int32.ofNat N = v) (hdg : decode cc pc = .ok (.arraylength, 1))
    (kk : W p l e R s m args below meth c H locs cells slots Q (F0 m (pc + 1) ls (.int v :: rest))) : W p l e R s m args below meth c H locs cells slots Q (F0 m pc ls (.ref (G.1 + a) :: rest)) := by
  subst hn
  exact va_alen C.1 C.2.1 C.2.2.2.2.2.1 hS.1 a 0 (wE_aiG hk ha) rfl hv hdg kk
theorem rG_vret (C : Cx G cc nL own p s m args c) (hS : StG G Rf n M s H locs) (hr : meth.sig.returnType = none) (hlk : meth.locks = false) (hdg : decode cc pc = .ok (.return_, 1)) : W p l e R s m args below meth c H locs cells slots (MQ below (PoG G Rf n M) args s cells slots (gA G)) (F0 m pc ls []) :=
  W.vret C.1 C.2.1 hr (fun t ht hW => ⟨⟨(), rfl, trivial, by subst ht; exact hS.1, by rw [ht]; exact hS.2.2.1⟩, hS.2.1.F ht⟩) hS.2.1.2.2 hdg hlk
theorem rG_then {st0 : List Value} {a : Array Value} {mc ms n' : Nat} {Rf' : zRf} {M' : zM} (hS : StG G Rf n M s H locs) (hr : va_Run p l e R s m args below meth c H locs cells slots mc ms (F0 m pc ls st0) rest (PoG G Rf' n' M' a) (gA G))
    (kk : ∀ (H1 : Heap) (locs1 : List Loc), StG G Rf' n' M' s H1 locs1 → W p l e R s m args below meth c H1 locs1 (cells + mc) (slots + ms) Q (F0 m (pc + 3) ls rest)) : W p l e R s m args below meth c H locs cells slots Q (F0 m pc ls st0) :=
  va_callv hr hS.2.1 (fun _ _ h => h) (fun _ h => h) (fun u t H1 locs1 ht hvm hp hB hz hk hS1 => kk H1 locs1 ⟨by rw [← ht]; exact hB.1, hS1, by rw [← ht]; exact hB.2, hS.2.2.2⟩)
theorem preG_of (C : Cx G cc nL own p s m args c) (hS : StG G Rf n M s H locs) {av : List Value} : PreS s H (PreG G Rf n M av) av := by
  obtain ⟨hx, hb, hml, hown, hts, hK, hX⟩ := C
  exact ⟨PreG_blind, fun U hU hW => ⟨rfl, by rw [hU]; exact hS.1, va_K.moved hW.alike hK, XX_to hX hS.2.1 hU hW, by rw [hU]; exact hS.2.2.1⟩⟩
/-- a constructor's link; 'nest': a private one of a nest mate -/
def CI (own : String) (idx : Nat) (y : MethodName) (bytes : ByteArray) (maxL n : Nat) : Prop := Cond.instanceMethod y ∈ TG ∧ Cond.initialized y.cls ∈ TG ∧ Cond.code y bytes maxL none ∈ TG ∧ y.name = "<init>" ∧ y.cls ≠ "java/lang/invoke/MethodHandle" ∧ y.cls ≠ "java/lang/invoke/VarHandle" ∧ (parseMethodDescriptor y.desc).map (fun d => d.parameters.length) = some n ∧ (Cond.methodLink own idx y ∈ TG ∨ ∃ host, Cond.methodLinkNest own idx y host ∈ zNest)
theorem rG_runI (C : Cx G cc nL own p s m args c) (hS : StG G Rf n M s H locs) (hl : ls.size = nL) {y : MethodName} {bytes : ByteArray} {maxL idx k b mc ms f lo : Nat} {As st0 : List Value} {Po : Array Value → State → Outcome → State → Prop} (hc : CI own idx y bytes maxL k) (hM : Met l y (wsM y bytes maxL none) (rmC f lo mc ms) (PreG G Rf n M (.ref b :: As)) Po mc ms (gA G)) (hR : f + 1 ≤ R.frames ∧ 8 + (maxL + 11) + lo ≤ R.locals) (hn : As.length = k) (hst : st0 = As.reverse ++ .ref b :: rest) (hro : (rest.map fun v => v.category).sum ≤ 8) (hcs : cells + mc ≤ R.cells ∧ slots + ms ≤ R.slots) (hdg : decode cc pc = .ok (.invokespecial idx, 3)) :
    va_Run p l e R s m args below meth c H locs cells slots mc ms (F0 m pc ls st0) rest (Po (Value.ref b :: As).toArray) (gA G) := by
  have hp := preG_of C hS (av := .ref b :: As)
  obtain ⟨hx, hb, hml, hown, hts, hK, hX⟩ := C
  obtain ⟨w1, w2, w3, hin, hd1, hd2, hd3, hlk⟩ := hc
  rcases hlk with w4 | ⟨host, w4⟩
  · exact va_runI (As := As) (rest := rest) ⟨hx, hb, hml, hown, hts⟩ hM ⟨callB_of k hts (wsM_good w3) rfl rfl rfl (hts _ w2) (hts _ w4) ⟨hd1, hd2, hd3⟩ hR, hin, hts _ w1⟩ hp rfl hn hl hst (lv_room hro) hdg hcs
  · exact va_runIN (As := As) (rest := rest) ⟨hx, hb, hml, hown, hts⟩ hM ⟨va_cnB k hts (wsM_good w3) rfl rfl rfl (hX.2.2.2.2.2.1 _ w4) (hts _ w2) ⟨hd1, hd2, hd3⟩ hR, hin, hts _ w1⟩ hp rfl hn hl hst (lv_room hro) hdg hcs
theorem rG_runS (C : Cx G cc nL own p s m args c) (hS : StG G Rf n M s H locs) (hl : ls.size = nL) {y : MethodName} {bytes : ByteArray} {maxL f lo idx k : Nat} {ret : Option FieldType} {As st0 : List Value} {Po : Array Value → State → Outcome → State → Prop} (hc : CS own idx y bytes maxL ret k) (hM : Met l y (wsM y bytes maxL ret) (rmM f lo) (PreG G Rf n M As) Po 0 0 (gA G)) (hR : f + 1 ≤ R.frames ∧ 8 + (maxL + 11) + lo ≤ R.locals) (hn : As.length = k) (hst : st0 = As.reverse ++ rest) (hro : (rest.map fun v => v.category).sum ≤ 8) (hcs : cells ≤ R.cells ∧ slots ≤ R.slots) (hdg : decode cc pc = .ok (.invokestatic idx, 3)) :
    va_Run p l e R s m args below meth c H locs cells slots 0 0 (F0 m pc ls st0) rest (Po As.toArray) (gA G) := by
  have hp := preG_of C hS (av := As)
  obtain ⟨hx, hb, hml, hown, hts, hK, hX⟩ := C
  obtain ⟨w1, w2, w4, w5, hd⟩ := hc
  exact va_runS (As := As) (rest := rest) ⟨hx, hb, hml, hown, hts⟩ hM ⟨callB_of k hts (wsM_good w5) rfl rfl rfl (hts _ w4) (hts _ w1) hd hR, hts _ w2⟩ hp rfl hn hl hst (lv_room hro) hdg hcs
theorem rG_runV (C : Cx G cc nL own p s m args c) (hS : StG G Rf n M s H locs) (hl : ls.size = nL) {y : MethodName} {bytes : ByteArray} {maxL f lo idx k a ci : Nat} {ret : Option FieldType} {As st0 : List Value} {Po : Array Value → State → Outcome → State → Prop} (hc : CV own idx y bytes maxL ret ci k) (hk : zK a = ci) (ha : a < n) (hM : Met l y (wsM y bytes maxL ret) (rmM f lo) (PreG G Rf n M (.ref (G.1 + a) :: As)) Po 0 0 (gA G)) (hR : f + 1 ≤ R.frames ∧ 8 + (maxL + 11) + lo ≤ R.locals) (hn : As.length = k) (hst : st0 = As.reverse ++ .ref (G.1 + a) :: rest) (hro : (rest.map fun v => v.category).sum ≤ 8) (hcs : cells ≤ R.cells ∧ slots ≤ R.slots) (hdg : decode cc pc = .ok (.invokevirtual idx, 3)) :
    va_Run p l e R s m args below meth c H locs cells slots 0 0 (F0 m pc ls st0) rest (Po (Value.ref (G.1 + a) :: As).toArray) (gA G) := by
  have hp := preG_of C hS (av := .ref (G.1 + a) :: As)
  obtain ⟨hx, hb, hml, hown, hts, hK, hX⟩ := C
  obtain ⟨Cn, T, N, hcl, h12, w1, w2, w3, w4, w5, hC, hd1, hd2, hd3⟩ := hc
  exact va_runV (As := As) (rest := rest) ⟨hx, hb, hml, hown, hts⟩ hM ⟨callB_of k hts (wsM_good w5) rfl rfl rfl (by rw [hC]; exact hts _ w4) (hts _ w1) ⟨hd1, hd2, hd3⟩ hR, hts _ w2, hts _ w3⟩ ⟨hp.1, va_recv hK hS.1 hcl ((wE_get ha).trans (by rw [ent_o hk h12])), hp.2⟩ rfl hn hl hst (lv_room hro) hdg hcs
end CTR
theorem rG_met {l : Launch} {G : Gl} {Rf : zRf} {n : Nat} {M : zM} {y : MethodName} {cc : ByteArray} {nL : Nat} {ret : Option FieldType} {rm : Room} {mc ms : Nat} {own : String} {av : List Value} {Po : Array Value → State → Outcome → State → Prop} (hcls : y.cls = own) (hy : plainName own = true) (hlen : (lg_sl av).length ≤ nL)
    (body : ∀ (p : Program) (e : Env) (s : State) (m : MethodId) (below : List Frame) (meth : Method) (c : Code) (ls : Array Slot), Cx G cc nL own p s m av.toArray c → meth.sig.returnType = ret → meth.locks = false → meth.name = y.name → StG G Rf n M s s.heap [] → lv_has ls nL (lv_args 0 av) → W p l e rm s m av.toArray below meth c s.heap [] 0 0 (MQ below Po av.toArray s mc ms (gA G)) (F0 m 0 ls [])) :
    Met l y (wsM y cc nL ret) rm (PreG G Rf n M av) Po mc ms (gA G) := by
  subst hcls
  refine Met.ofW (cc := cc) (maxL := nL) (ret := ret) hy rfl ?_
  intro p e s m args below meth c s₁ B hml hv
  obtain ⟨rfl, hP, hK, hX, hz⟩ := hv
  have hts := atoms_spec (ws := wsM y cc nL ret) B.pre
  have hown : s.vm.findClass y.cls = some m.cls := findClass_of_methodNamed B.named
  have hl := lv_entry av (n := nL) hlen
  rw [lg_entry_eq]
  exact body p e s m below meth c _ ⟨B.exec, B.bytes, hml, hown, fun w hw => hts w (List.mem_cons_of_mem _ hw), hK, hX⟩ B.returns B.notSynchronized (name_of_methodNamed B.named B.method).1 ⟨hP, va_S.rf, hz, by rw [hz]; exact Nat.le_add_right _ _⟩ hl

/-! ===== a row an instruction, over the memory ===== -/
def sl (x : Int64) (y : Int32) : Int64 := x <<< (y.toInt64 &&& 63)
def sr (x : Int64) (y : Int32) : Int64 := x >>> (y.toInt64 &&& 63)
def ur (x : Int64) (y : Int32) : Int64 := (x.toUInt64 >>> (y.toInt64.toUInt64 &&& Int64.toUInt64 63)).toInt64
theorem wsM_good {y : MethodName} {cc : ByteArray} {nL : Nat} {ret : Option FieldType} (h : Cond.code y cc nL ret ∈ TG) : GoodIn TG (wsM y cc nL ret) := by
  intro w hw
  rcases List.mem_cons.mp hw with e | e
  · rw [e]; exact ⟨h, TG_good _ h⟩
  · exact ⟨e, TG_good _ e⟩
section RW
variable {G : Gl} {cc : ByteArray} {nL : Nat} {own : String} {p : Program} {l : Launch} {e : Env} {R : Room} {s : State} {m : MethodId} {args : Array Value} {below : List Frame} {meth : Method} {c : Code} {H : Heap} {locs : List Loc} {cells slots : Nat} {Q : State → Prop} {pc : Nat} {ls : Array Slot} {rest : List Value} {M M' : zM}
theorem r_gI (C : Cx G cc nL own p s m args c) (hS : St G M s H locs) {idx ci k a : Nat} (hf : FL own idx ci k) (ht : zT ci k = true) (hk : zK a = ci) (hdg : decode cc pc = .ok (.getfield idx, 3))
    (kk : W p l e R s m args below meth c H locs cells slots Q (F0 m (pc + 3) ls (.int (M.1 a k) :: rest))) : W p l e R s m args below meth c H locs cells slots Q (F0 m pc ls (.ref (G.1 + a) :: rest)) := by
  obtain ⟨hx, hb, hml, hown, hts, hK, hX⟩ := C
  obtain ⟨Cn, T, N, ty0, ⟨hc, hin, hty, hnm, hN, h12⟩, hkN, hlk⟩ := hf
  exact va_get (C := Cn) (T := T) (N := N) (ref := (T k).1) hx hb hts hin hown hK hS.1 a ((wE_get (zK_lt hk (by omega))).trans (by rw [ent_o hk h12])) hc k hkN (hts _ hlk) (fun _ h => h) (fldL_get (by rw [← hN]; exact hkN) ht) hdg kk
theorem r_gR (C : Cx G cc nL own p s m args c) (hS : St G M s H locs) {idx ci k a r : Nat} (hf : FL own idx ci k) (ht : zT ci k = false) (hk : zK a = ci) (hr : zR a k = some r) (hdg : decode cc pc = .ok (.getfield idx, 3))
    (kk : W p l e R s m args below meth c H locs cells slots Q (F0 m (pc + 3) ls (.ref (G.1 + r) :: rest))) : W p l e R s m args below meth c H locs cells slots Q (F0 m pc ls (.ref (G.1 + a) :: rest)) := by
  obtain ⟨hx, hb, hml, hown, hts, hK, hX⟩ := C
  obtain ⟨Cn, T, N, ty0, ⟨hc, hin, hty, hnm, hN, h12⟩, hkN, hlk⟩ := hf
  exact va_get (C := Cn) (T := T) (N := N) (ref := (T k).1) hx hb hts hin hown hK hS.1 a ((wE_get (zK_lt hk (by omega))).trans (by rw [ent_o hk h12])) hc k hkN (hts _ hlk) (fun _ h => h) (fldL_getR (by rw [← hN]; exact hkN) ht hr) hdg kk
theorem r_gN (C : Cx G cc nL own p s m args c) (hS : St G M s H locs) {idx ci k a r : Nat} (hf : FN own idx ci k) (ht : zT ci k = false) (hk : zK a = ci) (hr : zR a k = some r) (hdg : decode cc pc = .ok (.getfield idx, 3))
    (kk : W p l e R s m args below meth c H locs cells slots Q (F0 m (pc + 3) ls (.ref (G.1 + r) :: rest))) : W p l e R s m args below meth c H locs cells slots Q (F0 m pc ls (.ref (G.1 + a) :: rest)) := by
  obtain ⟨hx, hb, hml, hown, hts, hK, hX⟩ := C
  obtain ⟨Cn, T, N, ty0, host, ⟨hc, hin, hty, hnm, hN, h12⟩, hkN, hlk⟩ := hf
  exact va_getN (C := Cn) (T := T) (N := N) (ref := (T k).1) hx hb hts hin hown hK hS.1 a ((wE_get (zK_lt hk (by omega))).trans (by rw [ent_o hk h12])) hc k hkN (va_Nw.use rfl (hX.2.2.2.2.2.1 _ hlk)) (fun _ h => h) (fldL_getR (by rw [← hN]; exact hkN) ht hr) hdg kk
theorem r_put {ty : FieldType} {v : Int32} (C : Cx G cc nL own p s m args c) (hS : St G M s H locs) {idx ci k a : Nat} (hf : FP own idx ci k ty) (ht : zT ci k = true) (hn : narrow ty (.int v) = .int v) (hfit : fits ty (.int v) = true) (hk : zK a = ci) (he : M' = zI M a k v) (hdg : decode cc pc = .ok (.putfield idx, 3))
    (kk : ∀ (H1 : Heap) (locs1 : List Loc), St G M' s H1 locs1 → W p l e R s m args below meth c H1 locs1 cells slots Q (F0 m (pc + 3) ls rest)) : W p l e R s m args below meth c H locs cells slots Q (F0 m pc ls (.int v :: .ref (G.1 + a) :: rest)) := by
  obtain ⟨hx, hb, hml, hown, hts, hK, hX⟩ := C
  obtain ⟨Cn, T, N, ty0, ⟨hc, hin, hty, hnm, hN, h12⟩, hkN, hlk, hfin, hpd⟩ := hf
  have ha := zK_lt hk (by omega)
  have hkF : k < zF ci := by rw [← hN]; exact hkN
  refine va_put (C := Cn) (T := T) (N := N) (ref := (T k).1) hx hb hts hin ty0 hty hnm hown hK hS.1 wE_D hS.2 a ((wE_get ha).trans (by rw [ent_o hk h12])) hc k hkN (hts _ hlk) (fun _ h => h) hfin hpd hn hfit (by rw [fldL_len]; exact hkF) hdg (fun H1 locs1 hP1 hD1 hS1 => ?_)
  rw [fldL_set hkF ht, wE_set ha (M' := M') (by rw [he, ent_o hk h12]) (fun b hb => by rw [he]; exact ent_same (zI_other hb) rfl)] at hP1
  exact kk H1 locs1 ⟨hP1, hS1⟩
theorem r_pI {v : Int32} (C : Cx G cc nL own p s m args c) (hS : St G M s H locs) {idx ci k a : Nat} (hf : FP own idx ci k .int) (ht : zT ci k = true) (hk : zK a = ci) (he : M' = zI M a k v) (hdg : decode cc pc = .ok (.putfield idx, 3))
    (kk : ∀ (H1 : Heap) (locs1 : List Loc), St G M' s H1 locs1 → W p l e R s m args below meth c H1 locs1 cells slots Q (F0 m (pc + 3) ls rest)) : W p l e R s m args below meth c H locs cells slots Q (F0 m pc ls (.int v :: .ref (G.1 + a) :: rest)) := r_put C hS hf ht rfl rfl hk he hdg kk
theorem wE_ai {a : Nat} (hk : zK a = 12) {bs : Nat} {cy : Nat → ClassId} {Rf : Nat → Nat → Option Nat} : (wE bs cy Rf zC M)[a]? = some (bs + a, .inl (cy 0, zN a, .inl (M.1 a))) := (wE_get (zK_lt hk (by decide))).trans (by rw [ent_i hk])
theorem wE_ab {a : Nat} (hk : zK a = 13) {bs : Nat} {cy : Nat → ClassId} {Rf : Nat → Nat → Option Nat} : (wE bs cy Rf zC M)[a]? = some (bs + a, .inl (cy 1, zN a, .inl (M.1 a))) := (wE_get (zK_lt hk (by decide))).trans (by rw [ent_b hk])
theorem wE_az {a : Nat} (hk : zK a = 14) {bs : Nat} {cy : Nat → ClassId} {Rf : Nat → Nat → Option Nat} : (wE bs cy Rf zC M)[a]? = some (bs + a, .inl (cy 2, zN a, .inl (M.1 a))) := (wE_get (zK_lt hk (by decide))).trans (by rw [ent_z hk])
theorem wE_al {a : Nat} (hk : zK a = 15) {bs : Nat} {cy : Nat → ClassId} {Rf : Nat → Nat → Option Nat} : (wE bs cy Rf zC M)[a]? = some (bs + a, .inl (cy 3, zN a, .inr (.inl (M.2 a)))) := (wE_get (zK_lt hk (by decide))).trans (by rw [ent_l hk])
theorem wE_ar {a : Nat} (hk : zK a = 16) {bs : Nat} {cy : Nat → ClassId} {Rf : Nat → Nat → Option Nat} : (wE bs cy Rf zC M)[a]? = some (bs + a, .inl (cy 4, zN a, .inr (.inr (.inr (.inr (fun j => (Rf a j).map (fun r => bs + r))))))) := (wE_get (zK_lt hk (by decide))).trans (by rw [ent_r hk])
theorem r_iald (C : Cx G cc nL own p s m args c) (hS : St G M s H locs) {a n : Nat} {i : Int32} (hk : zK a = 12) (hn : zN a = n) (hi : inb i n = true) (hdg : decode cc pc = .ok (.iaload, 1))
    (kk : W p l e R s m args below meth c H locs cells slots Q (F0 m (pc + 1) ls (.int (M.1 a i.toNatClampNeg) :: rest))) : W p l e R s m args below meth c H locs cells slots Q (F0 m pc ls (.int i :: .ref (G.1 + a) :: rest)) :=
  va_iald C.1 C.2.1 C.2.2.2.2.2.1 hS.1 a 0 (wE_ai hk) rfl (hn ▸ inb_in hi) hdg kk
theorem r_bald (C : Cx G cc nL own p s m args c) (hS : St G M s H locs) {a n : Nat} {i : Int32} (hk : zK a = 13) (hn : zN a = n) (hi : inb i n = true) (hdg : decode cc pc = .ok (.baload, 1))
    (kk : W p l e R s m args below meth c H locs cells slots Q (F0 m (pc + 1) ls (.int (M.1 a i.toNatClampNeg) :: rest))) : W p l e R s m args below meth c H locs cells slots Q (F0 m pc ls (.int i :: .ref (G.1 + a) :: rest)) :=
  va_bald C.1 C.2.1 C.2.2.2.2.2.1 hS.1 a 1 (wE_ab hk) rfl (hn ▸ inb_in hi) hdg kk
theorem r_zald (C : Cx G cc nL own p s m args c) (hS : St G M s H locs) {a n : Nat} {i : Int32} (hk : zK a = 14) (hn : zN a = n) (hi : inb i n = true) (hdg : decode cc pc = .ok (.baload, 1))
    (kk : W p l e R s m args below meth c H locs cells slots Q (F0 m (pc + 1) ls (.int (M.1 a i.toNatClampNeg) :: rest))) : W p l e R s m args below meth c H locs cells slots Q (F0 m pc ls (.int i :: .ref (G.1 + a) :: rest)) :=
  va_zald C.1 C.2.1 C.2.2.2.2.2.1 hS.1 a 2 (wE_az hk) rfl (hn ▸ inb_in hi) hdg kk
theorem r_lald (C : Cx G cc nL own p s m args c) (hS : St G M s H locs) {a n : Nat} {i : Int32} (hk : zK a = 15) (hn : zN a = n) (hi : inb i n = true) (hdg : decode cc pc = .ok (.laload, 1))
    (kk : W p l e R s m args below meth c H locs cells slots Q (F0 m (pc + 1) ls (.long (M.2 a i.toNatClampNeg) :: rest))) : W p l e R s m args below meth c H locs cells slots Q (F0 m pc ls (.int i :: .ref (G.1 + a) :: rest)) :=
  va_lald C.1 C.2.1 C.2.2.2.2.2.1 hS.1 a 3 (wE_al hk) rfl (hn ▸ inb_in hi) hdg kk
theorem r_aald (C : Cx G cc nL own p s m args c) (hS : St G M s H locs) {a n r : Nat} {i : Int32} (hk : zK a = 16) (hn : zN a = n) (hi : inb i n = true) (hr : zR a i.toNatClampNeg = some r) (hdg : decode cc pc = .ok (.aaload, 1))
    (kk : W p l e R s m args below meth c H locs cells slots Q (F0 m (pc + 1) ls (.ref (G.1 + r) :: rest))) : W p l e R s m args below meth c H locs cells slots Q (F0 m pc ls (.int i :: .ref (G.1 + a) :: rest)) := by
  refine va_aldq C.1 C.2.1 C.2.2.2.2.2.1 hS.1 a 4 (wE_ar hk) rfl (hn ▸ inb_in hi) hdg ?_
  rw [hr]
  exact kk
theorem r_alen (C : Cx G cc nL own p s m args c) (hS : St G M s H locs) {a n ty : Nat} {v : Int32} (hk : zK a = ty) (hty : 12 ≤ ty ∧ ty ≤ 16) (hn : zN a = n) (hv : Int32.ofNat n = v) (hdg : decode cc pc = .ok (.arraylength, 1))
    (kk : W p l e R s m args below meth c H locs cells slots Q (F0 m (pc + 1) ls (.int v :: rest))) : W p l e R s m args below meth c H locs cells slots Q (F0 m pc ls (.ref (G.1 + a) :: rest)) := by
  subst hn
  rcases (show ty = 12 ∨ ty = 13 ∨ ty = 14 ∨ ty = 15 ∨ ty = 16 by omega) with rfl | rfl | rfl | rfl | rfl
  · exact va_alen C.1 C.2.1 C.2.2.2.2.2.1 hS.1 a 0 (wE_ai hk) rfl hv hdg kk
  · exact va_alen C.1 C.2.1 C.2.2.2.2.2.1 hS.1 a 1 (wE_ab hk) rfl hv hdg kk
  · exact va_alen C.1 C.2.1 C.2.2.2.2.2.1 hS.1 a 2 (wE_az hk) rfl hv hdg kk
  · exact va_alen C.1 C.2.1 C.2.2.2.2.2.1 hS.1 a 3 (wE_al hk) rfl hv hdg kk
  · exact va_alen C.1 C.2.1 C.2.2.2.2.2.1 hS.1 a 4 (wE_ar hk) rfl hv hdg kk
theorem r_iast (C : Cx G cc nL own p s m args c) (hS : St G M s H locs) {a n : Nat} {i v : Int32} (hk : zK a = 12) (hn : zN a = n) (hi : inb i n = true) (he : M' = zI M a i.toNatClampNeg v) (hdg : decode cc pc = .ok (.iastore, 1))
    (kk : ∀ (H1 : Heap) (locs1 : List Loc), St G M' s H1 locs1 → W p l e R s m args below meth c H1 locs1 cells slots Q (F0 m (pc + 1) ls rest)) : W p l e R s m args below meth c H locs cells slots Q (F0 m pc ls (.int v :: .int i :: .ref (G.1 + a) :: rest)) := by
  refine va_iast C.1 C.2.1 C.2.2.2.2.2.1 hS.1 wE_D hS.2 a 0 (wE_ai hk) rfl (hn ▸ inb_in hi) hdg (fun H1 locs1 hP1 hD1 hS1 => ?_)
  rw [wE_set (zK_lt hk (by decide)) (M' := M') (by rw [ent_i hk, he, zI_same]) (fun b hb => by rw [he]; exact ent_same (zI_other hb) rfl)] at hP1
  exact kk H1 locs1 ⟨hP1, hS1⟩
theorem r_bast (C : Cx G cc nL own p s m args c) (hS : St G M s H locs) {a n : Nat} {i v : Int32} (hk : zK a = 13) (hn : zN a = n) (hi : inb i n = true) (he : M' = zI M a i.toNatClampNeg v.toInt8.toInt32) (hdg : decode cc pc = .ok (.bastore, 1))
    (kk : ∀ (H1 : Heap) (locs1 : List Loc), St G M' s H1 locs1 → W p l e R s m args below meth c H1 locs1 cells slots Q (F0 m (pc + 1) ls rest)) : W p l e R s m args below meth c H locs cells slots Q (F0 m pc ls (.int v :: .int i :: .ref (G.1 + a) :: rest)) := by
  refine va_bast C.1 C.2.1 C.2.2.2.2.2.1 hS.1 wE_D hS.2 a 1 (wE_ab hk) rfl (hn ▸ inb_in hi) hdg (fun H1 locs1 hP1 hD1 hS1 => ?_)
  rw [wE_set (zK_lt hk (by decide)) (M' := M') (by rw [ent_b hk, he, zI_same]; rfl) (fun b hb => by rw [he]; exact ent_same (zI_other hb) rfl)] at hP1
  exact kk H1 locs1 ⟨hP1, hS1⟩
theorem r_zast (C : Cx G cc nL own p s m args c) (hS : St G M s H locs) {a n : Nat} {i v : Int32} (hk : zK a = 14) (hn : zN a = n) (hi : inb i n = true) (he : M' = zI M a i.toNatClampNeg (v &&& 1)) (hdg : decode cc pc = .ok (.bastore, 1))
    (kk : ∀ (H1 : Heap) (locs1 : List Loc), St G M' s H1 locs1 → W p l e R s m args below meth c H1 locs1 cells slots Q (F0 m (pc + 1) ls rest)) : W p l e R s m args below meth c H locs cells slots Q (F0 m pc ls (.int v :: .int i :: .ref (G.1 + a) :: rest)) := by
  refine va_zast C.1 C.2.1 C.2.2.2.2.2.1 hS.1 wE_D hS.2 a 2 (wE_az hk) rfl (hn ▸ inb_in hi) hdg (fun H1 locs1 hP1 hD1 hS1 => ?_)
  rw [wE_set (zK_lt hk (by decide)) (M' := M') (by rw [ent_z hk, he, zI_same]; rfl) (fun b hb => by rw [he]; exact ent_same (zI_other hb) rfl)] at hP1
  exact kk H1 locs1 ⟨hP1, hS1⟩
theorem r_last (C : Cx G cc nL own p s m args c) (hS : St G M s H locs) {a n : Nat} {i : Int32} {v : Int64} (hk : zK a = 15) (hn : zN a = n) (hi : inb i n = true) (he : M' = zL M a i.toNatClampNeg v) (hdg : decode cc pc = .ok (.lastore, 1))
    (kk : ∀ (H1 : Heap) (locs1 : List Loc), St G M' s H1 locs1 → W p l e R s m args below meth c H1 locs1 cells slots Q (F0 m (pc + 1) ls rest)) : W p l e R s m args below meth c H locs cells slots Q (F0 m pc ls (.long v :: .int i :: .ref (G.1 + a) :: rest)) := by
  refine va_last C.1 C.2.1 C.2.2.2.2.2.1 hS.1 wE_D hS.2 a 3 (wE_al hk) rfl (hn ▸ inb_in hi) hdg (fun H1 locs1 hP1 hD1 hS1 => ?_)
  rw [wE_set (zK_lt hk (by decide)) (M' := M') (by rw [ent_l hk, he, zL_same]) (fun b hb => by rw [he]; exact ent_same rfl (zL_other hb))] at hP1
  exact kk H1 locs1 ⟨hP1, hS1⟩
/-- a number on the stack gets a name -/
theorem r_nI {x y : Int32} (h : y = x) (kk : W p l e R s m args below meth c H locs cells slots Q (F0 m pc ls (.int y :: rest))) : W p l e R s m args below meth c H locs cells slots Q (F0 m pc ls (.int x :: rest)) := h ▸ kk
theorem r_nL {x y : Int64} (h : y = x) (kk : W p l e R s m args below meth c H locs cells slots Q (F0 m pc ls (.long y :: rest))) : W p l e R s m args below meth c H locs cells slots Q (F0 m pc ls (.long x :: rest)) := h ▸ kk
/-! returns -/
theorem r_iret (C : Cx G cc nL own p s m args c) (hS : St G M s H locs) (hr : meth.sig.returnType = some .int) (hlk : meth.locks = false) {v : Int32} {q : Int32 × zM} (h : some (v, M) = some q) (hdg : decode cc pc = .ok (.ireturn, 1)) : W p l e R s m args below meth c H locs cells slots (MQ below (PoI G q) args s cells slots (gA G)) (F0 m pc ls [.int v]) := by
  cases h
  exact W.iret C.1 C.2.1 hr (fun t ht hW => ⟨⟨v, (), rfl, rfl, by subst ht; exact hS.1⟩, hS.2.F ht⟩) hS.2.2.2 hdg hlk
theorem r_zret (C : Cx G cc nL own p s m args c) (hS : St G M s H locs) (hr : meth.sig.returnType = some .boolean) (hlk : meth.locks = false) {v : Int32} {q : Int32 × zM} (h : (if v &&& 1 = v then some (v, M) else none) = some q) (hdg : decode cc pc = .ok (.ireturn, 1)) : W p l e R s m args below meth c H locs cells slots (MQ below (PoI G q) args s cells slots (gA G)) (F0 m pc ls [.int v]) := by
  obtain ⟨hv, h⟩ := ift h
  cases h
  exact W.zret C.1 C.2.1 hr (by show Value.int (v &&& 1) = _; rw [hv]) (fun t ht hW => ⟨⟨v, (), rfl, rfl, by subst ht; exact hS.1⟩, hS.2.F ht⟩) hS.2.2.2 hdg hlk
theorem r_nret (C : Cx G cc nL own p s m args c) (hS : St G M s H locs) {ty : FieldType} (hr : meth.sig.returnType = some ty) (hlk : meth.locks = false) {v : Int32} (hn : narrow ty (.int v) = .int v) {q : Int32 × zM} (h : some (v, M) = some q) (hdg : decode cc pc = .ok (.ireturn, 1)) : W p l e R s m args below meth c H locs cells slots (MQ below (PoI G q) args s cells slots (gA G)) (F0 m pc ls [.int v]) := by
  cases h
  exact W.zret C.1 C.2.1 hr hn (fun t ht hW => ⟨⟨v, (), rfl, rfl, by subst ht; exact hS.1⟩, hS.2.F ht⟩) hS.2.2.2 hdg hlk
theorem r_lret (C : Cx G cc nL own p s m args c) (hS : St G M s H locs) (hr : meth.sig.returnType = some .long) (hlk : meth.locks = false) {v : Int64} {q : Int64 × zM} (h : some (v, M) = some q) (hdg : decode cc pc = .ok (.lreturn, 1)) : W p l e R s m args below meth c H locs cells slots (MQ below (PoL G q) args s cells slots (gA G)) (F0 m pc ls [.long v]) := by
  cases h
  exact W.lret C.1 C.2.1 hr (fun t ht hW => ⟨⟨v, (), rfl, rfl, by subst ht; exact hS.1⟩, hS.2.F ht⟩) hS.2.2.2 hdg hlk
theorem r_vret (C : Cx G cc nL own p s m args c) (hS : St G M s H locs) (hr : meth.sig.returnType = none) (hlk : meth.locks = false) {q : Unit × zM} (h : some ((), M) = some q) (hdg : decode cc pc = .ok (.return_, 1)) : W p l e R s m args below meth c H locs cells slots (MQ below (PoV G q) args s cells slots (gA G)) (F0 m pc ls []) := by
  cases h
  exact W.vret C.1 C.2.1 hr (fun t ht hW => ⟨⟨(), rfl, trivial, by subst ht; exact hS.1⟩, hS.2.F ht⟩) hS.2.2.2 hdg hlk
theorem r_aret (C : Cx G cc nL own p s m args c) (hS : St G M s H locs) {rt : FieldType} (hr : meth.sig.returnType = some (.array rt)) (hlk : meth.locks = false) {a : Nat} {q : Nat × zM} (h : some (a, M) = some q) (hdg : decode cc pc = .ok (.areturn, 1)) : W p l e R s m args below meth c H locs cells slots (MQ below (PoR G q) args s cells slots (gA G)) (F0 m pc ls [.ref (G.1 + a)]) := by
  cases h
  exact W.aret C.1 C.2.1 hr (Or.inr ⟨_, rfl⟩) (Or.inr ⟨_, rfl⟩) (fun t ht hW => ⟨⟨(), G.1 + a, rfl, trivial, rfl, by subst ht; exact hS.1⟩, hS.2.F ht⟩) hS.2.2.2 hdg hlk
/-! calls -/
/-- a link to a method of an object, and to a static one -/
def CV (own : String) (idx : Nat) (y : MethodName) (bytes : ByteArray) (maxL : Nat) (ret : Option FieldType) (ci n : Nat) : Prop := ∃ (Cn : String) (T : u_T) (N : Nat), vwCl[ci]? = some (Cn, T, N) ∧ ci < 12 ∧ Cond.methodLink own idx y ∈ TG ∧ Cond.instanceMethod y ∈ TG ∧ Cond.selects Cn y y ∈ TG ∧ Cond.initialized Cn ∈ TG ∧ Cond.code y bytes maxL ret ∈ TG ∧ y.cls = Cn ∧ y.cls ≠ "java/lang/invoke/MethodHandle" ∧ y.cls ≠ "java/lang/invoke/VarHandle" ∧ (parseMethodDescriptor y.desc).map (fun d => d.parameters.length) = some n
def CS (own : String) (idx : Nat) (y : MethodName) (bytes : ByteArray) (maxL : Nat) (ret : Option FieldType) (n : Nat) : Prop := Cond.methodLink own idx y ∈ TG ∧ Cond.static y ∈ TG ∧ Cond.initialized y.cls ∈ TG ∧ Cond.code y bytes maxL ret ∈ TG ∧ y.cls ≠ "java/lang/invoke/MethodHandle" ∧ y.cls ≠ "java/lang/invoke/VarHandle" ∧ (parseMethodDescriptor y.desc).map (fun d => d.parameters.length) = some n
theorem r_runV (C : Cx G cc nL own p s m args c) (hS : St G M s H locs) (hl : ls.size = nL) {y : MethodName} {bytes : ByteArray} {maxL f lo idx n a ci : Nat} {ret : Option FieldType} {As st0 : List Value} {Po : Array Value → State → Outcome → State → Prop} (hc : CV own idx y bytes maxL ret ci n) (hk : zK a = ci) (hM : Met l y (wsM y bytes maxL ret) (rmM f lo) (Pre G M (.ref (G.1 + a) :: As)) Po 0 0 (gA G)) (hR : f + 1 ≤ R.frames ∧ 8 + (maxL + 11) + lo ≤ R.locals) (hn : As.length = n) (hst : st0 = As.reverse ++ .ref (G.1 + a) :: rest) (hro : (rest.map fun v => v.category).sum ≤ 8) (hcs : cells ≤ R.cells ∧ slots ≤ R.slots) (hdg : decode cc pc = .ok (.invokevirtual idx, 3)) :
    va_Run p l e R s m args below meth c H locs cells slots 0 0 (F0 m pc ls st0) rest (Po (Value.ref (G.1 + a) :: As).toArray) (gA G) := by
  obtain ⟨hx, hb, hml, hown, hts, hK, hX⟩ := C
  obtain ⟨Cn, T, N, hcl, h12, w1, w2, w3, w4, w5, hC, hd1, hd2, hd3⟩ := hc
  exact va_runV (As := As) (rest := rest) ⟨hx, hb, hml, hown, hts⟩ hM ⟨callB_of n hts (wsM_good w5) rfl rfl rfl (by rw [hC]; exact hts _ w4) (hts _ w1) ⟨hd1, hd2, hd3⟩ hR, hts _ w2, hts _ w3⟩ ⟨Pre_blind, va_recv hK hS.1 hcl ((wE_get (zK_lt hk (by omega))).trans (by rw [ent_o hk h12])), fun U hU hW => ⟨rfl, by rw [hU]; exact hS.1, va_K.moved hW.alike hK, XX_to hX hS.2 hU hW⟩⟩ rfl hn hl hst (lv_room hro) hdg hcs
theorem r_runS (C : Cx G cc nL own p s m args c) (hS : St G M s H locs) (hl : ls.size = nL) {y : MethodName} {bytes : ByteArray} {maxL f lo idx n : Nat} {ret : Option FieldType} {As st0 : List Value} {Po : Array Value → State → Outcome → State → Prop} (hc : CS own idx y bytes maxL ret n) (hM : Met l y (wsM y bytes maxL ret) (rmM f lo) (Pre G M As) Po 0 0 (gA G)) (hR : f + 1 ≤ R.frames ∧ 8 + (maxL + 11) + lo ≤ R.locals) (hn : As.length = n) (hst : st0 = As.reverse ++ rest) (hro : (rest.map fun v => v.category).sum ≤ 8) (hcs : cells ≤ R.cells ∧ slots ≤ R.slots) (hdg : decode cc pc = .ok (.invokestatic idx, 3)) :
    va_Run p l e R s m args below meth c H locs cells slots 0 0 (F0 m pc ls st0) rest (Po As.toArray) (gA G) := by
  obtain ⟨hx, hb, hml, hown, hts, hK, hX⟩ := C
  obtain ⟨w1, w2, w4, w5, hd⟩ := hc
  exact va_runS (As := As) (rest := rest) ⟨hx, hb, hml, hown, hts⟩ hM ⟨callB_of n hts (wsM_good w5) rfl rfl rfl (hts _ w4) (hts _ w1) hd hR, hts _ w2⟩ ⟨Pre_blind, fun U hU hW => ⟨rfl, by rw [hU]; exact hS.1, va_K.moved hW.alike hK, XX_to hX hS.2 hU hW⟩⟩ rfl hn hl hst (lv_room hro) hdg hcs
theorem r_thenI {st0 : List Value} {a : Array Value} {q : Int32 × zM} (hS : St G M s H locs) (hr : va_Run p l e R s m args below meth c H locs cells slots 0 0 (F0 m pc ls st0) rest (PoI G q a) (gA G))
    (kk : ∀ (H1 : Heap) (locs1 : List Loc), St G q.2 s H1 locs1 → W p l e R s m args below meth c H1 locs1 cells slots Q (F0 m (pc + 3) ls (.int q.1 :: rest))) : W p l e R s m args below meth c H locs cells slots Q (F0 m pc ls st0) :=
  va_calli hr hS.2 (fun _ _ h => h) (fun _ h => h) (fun r u t H1 locs1 ht hvm hp hB hz hk hS1 => by rw [hp]; exact kk H1 locs1 ⟨by rw [← ht]; exact hB, hS1⟩)
theorem r_thenL {st0 : List Value} {a : Array Value} {q : Int64 × zM} (hS : St G M s H locs) (hr : va_Run p l e R s m args below meth c H locs cells slots 0 0 (F0 m pc ls st0) rest (PoL G q a) (gA G))
    (kk : ∀ (H1 : Heap) (locs1 : List Loc), St G q.2 s H1 locs1 → W p l e R s m args below meth c H1 locs1 cells slots Q (F0 m (pc + 3) ls (.long q.1 :: rest))) : W p l e R s m args below meth c H locs cells slots Q (F0 m pc ls st0) :=
  va_calll hr hS.2 (fun _ _ h => h) (fun _ h => h) (fun r u t H1 locs1 ht hvm hp hB hz hk hS1 => by rw [hp]; exact kk H1 locs1 ⟨by rw [← ht]; exact hB, hS1⟩)
theorem r_thenV {st0 : List Value} {a : Array Value} {q : Unit × zM} (hS : St G M s H locs) (hr : va_Run p l e R s m args below meth c H locs cells slots 0 0 (F0 m pc ls st0) rest (PoV G q a) (gA G))
    (kk : ∀ (H1 : Heap) (locs1 : List Loc), St G q.2 s H1 locs1 → W p l e R s m args below meth c H1 locs1 cells slots Q (F0 m (pc + 3) ls rest)) : W p l e R s m args below meth c H locs cells slots Q (F0 m pc ls st0) :=
  va_callv hr hS.2 (fun _ _ h => h) (fun _ h => h) (fun u t H1 locs1 ht hvm hp hB hz hk hS1 => kk H1 locs1 ⟨by rw [← ht]; exact hB, hS1⟩)
theorem r_thenR {st0 : List Value} {a : Array Value} {q : Nat × zM} (hS : St G M s H locs) (hr : va_Run p l e R s m args below meth c H locs cells slots 0 0 (F0 m pc ls st0) rest (PoR G q a) (gA G))
    (kk : ∀ (H1 : Heap) (locs1 : List Loc), St G q.2 s H1 locs1 → W p l e R s m args below meth c H1 locs1 cells slots Q (F0 m (pc + 3) ls (.ref (G.1 + q.1) :: rest))) : W p l e R s m args below meth c H locs cells slots Q (F0 m pc ls st0) :=
  va_callr hr hS.2 (fun _ _ h => h) (fun _ h => h) (fun u b t H1 locs1 ht hvm hp hB hz hk hS1 => by rw [hB.1]; exact kk H1 locs1 ⟨by rw [← ht]; exact hB.2, hS1⟩)
end RW
/-- a method's contract out of the walk of its body -/
theorem r_met {l : Launch} {G : Gl} {M : zM} {y : MethodName} {cc : ByteArray} {nL : Nat} {ret : Option FieldType} {f lo : Nat} {own : String} {av : List Value} {Po : Array Value → State → Outcome → State → Prop} (hcls : y.cls = own) (hy : plainName own = true) (hlen : (lg_sl av).length ≤ nL)
    (body : ∀ (p : Program) (e : Env) (s : State) (m : MethodId) (below : List Frame) (meth : Method) (c : Code) (ls : Array Slot), Cx G cc nL own p s m av.toArray c → meth.sig.returnType = ret → meth.locks = false → St G M s s.heap [] → lv_has ls nL (lv_args 0 av) → W p l e (rmM f lo) s m av.toArray below meth c s.heap [] 0 0 (MQ below Po av.toArray s 0 0 (gA G)) (F0 m 0 ls [])) :
    Met l y (wsM y cc nL ret) (rmM f lo) (Pre G M av) Po 0 0 (gA G) := by
  subst hcls
  refine Met.ofW (cc := cc) (maxL := nL) (ret := ret) hy rfl ?_
  intro p e s m args below meth c s₁ B hml hv
  obtain ⟨rfl, hP, hK, hX⟩ := hv
  have hts := atoms_spec (ws := wsM y cc nL ret) B.pre
  have hown : s.vm.findClass y.cls = some m.cls := findClass_of_methodNamed B.named
  have hl := lv_entry av (n := nL) hlen
  rw [lg_entry_eq]
  exact body p e s m below meth c _ ⟨B.exec, B.bytes, hml, hown, fun w hw => hts w (List.mem_cons_of_mem _ hw), hK, hX⟩ B.returns B.notSynchronized ⟨hP, va_S.rf⟩ hl
/-! shapes that occur more than once -/
theorem zAll {P : Nat → Prop} {c : Nat} (h : ∀ a, a < zC → zK a = c → P a) (hc : c < 20) {a : Nat} (hk : zK a = c) : P a := h a (zK_lt hk hc) hk
theorem zR_3_0 {a : Nat} (h : zK a = 3) : zR a 0 = some (a + 1) := zAll (P := fun a => zR a 0 = some (a + 1)) (c := 3) (by decide +kernel) (by decide) h
theorem zKr_3_0 {a : Nat} (h : zK a = 3) : zK (a + 1) = 15 := zAll (P := fun a => zK (a + 1) = 15) (c := 3) (by decide +kernel) (by decide) h
theorem zNr_3_0 {a : Nat} (h : zK a = 3) : zN (a + 1) = 5 := zAll (P := fun a => zN (a + 1) = 5) (c := 3) (by decide +kernel) (by decide) h
theorem zR_6_0 {a : Nat} (h : zK a = 6) : zR a 0 = some (a + 1) := zAll (P := fun a => zR a 0 = some (a + 1)) (c := 6) (by decide +kernel) (by decide) h
theorem zKr_6_0 {a : Nat} (h : zK a = 6) : zK (a + 1) = 15 := zAll (P := fun a => zK (a + 1) = 15) (c := 6) (by decide +kernel) (by decide) h
theorem zR_9_2 {a : Nat} (h : zK a = 9) : zR a 2 = some (a + 1) := zAll (P := fun a => zR a 2 = some (a + 1)) (c := 9) (by decide +kernel) (by decide) h
theorem zKr_9_2 {a : Nat} (h : zK a = 9) : zK (a + 1) = 6 := zAll (P := fun a => zK (a + 1) = 6) (c := 9) (by decide +kernel) (by decide) h
theorem zR_9_3 {a : Nat} (h : zK a = 9) : zR a 3 = some (a + 3) := zAll (P := fun a => zR a 3 = some (a + 3)) (c := 9) (by decide +kernel) (by decide) h
theorem zKr_9_3 {a : Nat} (h : zK a = 9) : zK (a + 3) = 6 := zAll (P := fun a => zK (a + 3) = 6) (c := 9) (by decide +kernel) (by decide) h
theorem zR_9_4 {a : Nat} (h : zK a = 9) : zR a 4 = some (a + 5) := zAll (P := fun a => zR a 4 = some (a + 5)) (c := 9) (by decide +kernel) (by decide) h
theorem zKr_9_4 {a : Nat} (h : zK a = 9) : zK (a + 5) = 12 := zAll (P := fun a => zK (a + 5) = 12) (c := 9) (by decide +kernel) (by decide) h
theorem zNr_9_4 {a : Nat} (h : zK a = 9) : zN (a + 5) = 1000 := zAll (P := fun a => zN (a + 5) = 1000) (c := 9) (by decide +kernel) (by decide) h
theorem zR_9_5 {a : Nat} (h : zK a = 9) : zR a 5 = some (a + 6) := zAll (P := fun a => zR a 5 = some (a + 6)) (c := 9) (by decide +kernel) (by decide) h
theorem zKr_9_5 {a : Nat} (h : zK a = 9) : zK (a + 6) = 12 := zAll (P := fun a => zK (a + 6) = 12) (c := 9) (by decide +kernel) (by decide) h
theorem zNr_9_5 {a : Nat} (h : zK a = 9) : zN (a + 6) = 1000 := zAll (P := fun a => zN (a + 6) = 1000) (c := 9) (by decide +kernel) (by decide) h
theorem zR_9_6 {a : Nat} (h : zK a = 9) : zR a 6 = some (a + 7) := zAll (P := fun a => zR a 6 = some (a + 7)) (c := 9) (by decide +kernel) (by decide) h
theorem zKr_9_6 {a : Nat} (h : zK a = 9) : zK (a + 7) = 12 := zAll (P := fun a => zK (a + 7) = 12) (c := 9) (by decide +kernel) (by decide) h
theorem zNr_9_6 {a : Nat} (h : zK a = 9) : zN (a + 7) = 1000 := zAll (P := fun a => zN (a + 7) = 1000) (c := 9) (by decide +kernel) (by decide) h
theorem zR_9_7 {a : Nat} (h : zK a = 9) : zR a 7 = some (a + 8) := zAll (P := fun a => zR a 7 = some (a + 8)) (c := 9) (by decide +kernel) (by decide) h
theorem zKr_9_7 {a : Nat} (h : zK a = 9) : zK (a + 8) = 12 := zAll (P := fun a => zK (a + 8) = 12) (c := 9) (by decide +kernel) (by decide) h
theorem zNr_9_7 {a : Nat} (h : zK a = 9) : zN (a + 8) = 1000 := zAll (P := fun a => zN (a + 8) = 1000) (c := 9) (by decide +kernel) (by decide) h
theorem zR_9_8 {a : Nat} (h : zK a = 9) : zR a 8 = some (a + 9) := zAll (P := fun a => zR a 8 = some (a + 9)) (c := 9) (by decide +kernel) (by decide) h
theorem zKr_9_8 {a : Nat} (h : zK a = 9) : zK (a + 9) = 12 := zAll (P := fun a => zK (a + 9) = 12) (c := 9) (by decide +kernel) (by decide) h
theorem zNr_9_8 {a : Nat} (h : zK a = 9) : zN (a + 9) = 1000 := zAll (P := fun a => zN (a + 9) = 1000) (c := 9) (by decide +kernel) (by decide) h
/-- where a tongue stands -/
def tgA (i : Int32) : Nat := 14 + 10 * i.toNatClampNeg
theorem tg3 {i : Int32} (h : inb i 3 = true) : i.toNatClampNeg < 3 := Nat.not_le.mp fun q => inb_in h (Or.inr q)
theorem zR_13 {i : Int32} (h : inb i 3 = true) : zR 13 i.toNatClampNeg = some (tgA i) := by
  have := tg3 h
  unfold tgA
  generalize i.toNatClampNeg = n at this ⊢
  rcases (show n = 0 ∨ n = 1 ∨ n = 2 by omega) with rfl | rfl | rfl <;> rfl
theorem zK_13 {i : Int32} (h : inb i 3 = true) : zK (tgA i) = 9 := by
  have := tg3 h
  unfold tgA
  generalize i.toNatClampNeg = n at this ⊢
  rcases (show n = 0 ∨ n = 1 ∨ n = 2 by omega) with rfl | rfl | rfl <;> rfl
theorem ne_toInt {x k : Int32} {n : Int} (h : ¬ x = k) (hk : k.toInt = n) : x.toInt ≠ n := fun e => h (Int32.toInt_inj.mp (e.trans hk.symm))
/-- System.arraycopy of ints: within both rows -/
def okc (sp dp n : Int32) (na nb : Nat) : Bool := decide (¬ sp < 0 ∧ ¬ dp < 0 ∧ ¬ n < 0 ∧ sp.toNatClampNeg + n.toNatClampNeg ≤ na ∧ dp.toNatClampNeg + n.toNatClampNeg ≤ nb)
def zCp (M : zM) (a b : Nat) (sp dp n : Int32) : zM := (va_up M.1 b (va_cpy (M.1 a) (M.1 b) sp.toNatClampNeg dp.toNatClampNeg n.toNatClampNeg), M.2)
section RX
variable {G : Gl} {cc : ByteArray} {nL : Nat} {own : String} {p : Program} {l : Launch} {e : Env} {R : Room} {s : State} {m : MethodId} {args : Array Value} {below : List Frame} {meth : Method} {c : Code} {H : Heap} {locs : List Loc} {cells slots : Nat} {Q : State → Prop} {pc : Nat} {ls : Array Slot} {rest : List Value} {M M' : zM}
theorem r_copy (C : Cx G cc nL RX5 p s m args c) (hS : St G M s H locs) (hl : ls.size = nL) {a b na nb : Nat} {sp dp n : Int32} (hka : zK a = 12) (hkb : zK b = 12) (hna : zN a = na) (hnb : zN b = nb) (ho : okc sp dp n na nb = true) (he : M' = zCp M a b sp dp n) (hfr : 1 ≤ R.frames) (hlo : (rest.map fun v => v.category).sum + (nativeFrameWords "java/lang/System" "arraycopy" 5 + 11) ≤ R.locals) (hdg : decode cc pc = .ok (.invokestatic 28, 3))
    (kk : ∀ (H1 : Heap) (locs1 : List Loc), St G M' s H1 locs1 → W p l e R s m args below meth c H1 locs1 cells slots Q (F0 m (pc + 3) ls rest)) : W p l e R s m args below meth c H locs cells slots Q (F0 m pc ls (.int n :: .int dp :: .ref (G.1 + b) :: .int sp :: .ref (G.1 + a) :: rest)) := by
  subst hna; subst hnb
  obtain ⟨h1, h2, h3, h4, h5⟩ := of_decide_eq_true ho
  obtain ⟨hx, hb, hml, hown, hts, hK, hX⟩ := C
  refine va_copyi hx hb (hml.trans hl.symm) hown (hts _ tw_717) (hts _ tw_719) (hts _ tw_718) (hts _ tw_19) hK hS.1 wE_D hS.2 a b 0 0 (wE_ai hka) (wE_ai hkb) rfl rfl rfl h1 h2 h3 h4 h5 (fun _ _ => rfl) hfr hlo hdg (fun H1 locs1 hP1 hD1 hS1 => ?_)
  rw [wE_set (zK_lt hkb (by decide)) (M' := M') (by rw [ent_i hkb, he]; simp [zCp, va_up]) (fun b' hb' => by rw [he]; exact ent_same (by simp [zCp, va_up, hb']) rfl)] at hP1
  exact kk H1 locs1 ⟨hP1, hS1⟩
/-- a call on one of the four words -/
def CK (own : String) (idx : Nat) (y : MethodName) (bytes : ByteArray) (maxL : Nat) (ret : Option FieldType) (n : Nat) : Prop := Cond.methodLink own idx y ∈ TG ∧ Cond.instanceMethod y ∈ TG ∧ Cond.selects "java/lang/String" y y ∈ TG ∧ Cond.initialized "java/lang/String" ∈ TG ∧ Cond.code y bytes maxL ret ∈ TG ∧ y.cls = "java/lang/String" ∧ y.cls ≠ "java/lang/invoke/MethodHandle" ∧ y.cls ≠ "java/lang/invoke/VarHandle" ∧ (parseMethodDescriptor y.desc).map (fun d => d.parameters.length) = some n
theorem r_runK (C : Cx G cc nL own p s m args c) (hS : St G M s H locs) (hl : ls.size = nL) {y : MethodName} {bytes : ByteArray} {maxL f lo idx n w : Nat} {ret : Option FieldType} {As st0 : List Value} {Po : Array Value → State → Outcome → State → Prop} (hc : CK own idx y bytes maxL ret n) (hw : w < 4) (hM : Met l y (wsM y bytes maxL ret) (rmM f lo) (Pre G M (.ref (G.2.2.2.2.1 w) :: As)) Po 0 0 (gA G)) (hR : f + 1 ≤ R.frames ∧ 8 + (maxL + 11) + lo ≤ R.locals) (hn : As.length = n) (hst : st0 = As.reverse ++ .ref (G.2.2.2.2.1 w) :: rest) (hro : (rest.map fun v => v.category).sum ≤ 8) (hcs : cells ≤ R.cells ∧ slots ≤ R.slots) (hdg : decode cc pc = .ok (.invokevirtual idx, 3)) :
    va_Run p l e R s m args below meth c H locs cells slots 0 0 (F0 m pc ls st0) rest (Po (Value.ref (G.2.2.2.2.1 w) :: As).toArray) (gA G) := by
  obtain ⟨hx, hb, hml, hown, hts, hK, hX⟩ := C
  obtain ⟨w1, w2, w3, w4, w5, hC, hd1, hd2, hd3⟩ := hc
  exact va_runV (As := As) (rest := rest) ⟨hx, hb, hml, hown, hts⟩ hM ⟨callB_of n hts (wsM_good w5) rfl rfl rfl (by rw [hC]; exact hts _ w4) (hts _ w1) ⟨hd1, hd2, hd3⟩ hR, hts _ w2, hts _ w3⟩ ⟨Pre_blind, vk_recv hX.2.2.2.1 hw hS.2, fun U hU hW => ⟨rfl, by rw [hU]; exact hS.1, va_K.moved hW.alike hK, XX_to hX hS.2 hU hW⟩⟩ rfl hn hl hst (lv_room hro) hdg hcs
end RX

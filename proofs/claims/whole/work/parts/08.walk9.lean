def E_Law_law_18 (G : Gl) (p : Program) (l : Launch) (e : Env) (s : State) (m : MethodId) (args : Array Value) (below : List Frame) (meth : Method) (c : Code) (Q : State → Prop) (b : Nat) (L : Nat) (xs : Nat → Int32) : Nat → (Int32 × zM) → Prop := fun k (x3, M) => match k with
  | 0 => ∀ (H : Heap) (locs : List Loc) (ls : Array Slot), St G M s H locs → lv_has ls 4 [(0, .ref b), (1, .ref (G.1 + 0)), (2, .ref (G.1 + 63)), (3, .int x3)] → W p l e room_1 s m args below meth c H locs 99 96175 Q (F0 m 18 ls [])
  | 1 => ∀ (H : Heap) (locs : List Loc) (ls : Array Slot), St G M s H locs → lv_has ls 4 [] → W p l e room_1 s m args below meth c H locs 99 96175 Q (F0 m 209 ls [])
  | 2 => ∀ (H : Heap) (locs : List Loc) (ls : Array Slot), St G M s H locs → lv_has ls 4 [] → W p l e room_1 s m args below meth c H locs 99 96175 Q (F0 m 232 ls [])
  | 3 => ∀ (H : Heap) (locs : List Loc) (ls : Array Slot), St G M s H locs → lv_has ls 4 [] → W p l e room_1 s m args below meth c H locs 99 96175 Q (F0 m 245 ls [])
  | 4 => ∀ (H : Heap) (locs : List Loc) (ls : Array Slot), St G M s H locs → lv_has ls 4 [] → W p l e room_1 s m args below meth c H locs 99 96175 Q (F0 m 278 ls [])
  | 5 => ∀ (H : Heap) (locs : List Loc) (ls : Array Slot), St G M s H locs → lv_has ls 4 [] → W p l e room_1 s m args below meth c H locs 99 96175 Q (F0 m 321 ls [])
  | 6 => ∀ (H : Heap) (locs : List Loc) (ls : Array Slot), St G M s H locs → lv_has ls 4 [] → W p l e room_1 s m args below meth c H locs 99 96175 Q (F0 m 354 ls [])
  | 7 => ∀ (H : Heap) (locs : List Loc) (ls : Array Slot), St G M s H locs → lv_has ls 4 [] → W p l e room_1 s m args below meth c H locs 99 96175 Q (F0 m 387 ls [])
  | 8 => ∀ (H : Heap) (locs : List Loc) (ls : Array Slot), St G M s H locs → lv_has ls 4 [] → W p l e room_1 s m args below meth c H locs 99 96175 Q (F0 m 420 ls [])
  | 9 => ∀ (H : Heap) (locs : List Loc) (ls : Array Slot), St G M s H locs → lv_has ls 4 [] → W p l e room_1 s m args below meth c H locs 99 96175 Q (F0 m 473 ls [])
  | 10 => ∀ (H : Heap) (locs : List Loc) (ls : Array Slot), St G M s H locs → lv_has ls 4 [] → W p l e room_1 s m args below meth c H locs 99 96175 Q (F0 m 506 ls [])
  | 11 => ∀ (H : Heap) (locs : List Loc) (ls : Array Slot), St G M s H locs → lv_has ls 4 [] → W p l e room_1 s m args below meth c H locs 99 96175 Q (F0 m 549 ls [])
  | 12 => ∀ (H : Heap) (locs : List Loc) (ls : Array Slot), St G M s H locs → lv_has ls 4 [] → W p l e room_1 s m args below meth c H locs 99 96175 Q (F0 m 582 ls [])
  | 13 => ∀ (H : Heap) (locs : List Loc) (ls : Array Slot), St G M s H locs → lv_has ls 4 [] → W p l e room_1 s m args below meth c H locs 99 96175 Q (F0 m 615 ls [])
  | 14 => ∀ (H : Heap) (locs : List Loc) (ls : Array Slot), St G M s H locs → lv_has ls 4 [] → W p l e room_1 s m args below meth c H locs 99 96175 Q (F0 m 648 ls [])
  | 15 => ∀ (H : Heap) (locs : List Loc) (ls : Array Slot), St G M s H locs → lv_has ls 4 [] → W p l e room_1 s m args below meth c H locs 99 96175 Q (F0 m 671 ls [])
  | 16 => ∀ (H : Heap) (locs : List Loc) (ls : Array Slot), St G M s H locs → lv_has ls 4 [] → W p l e room_1 s m args below meth c H locs 99 96175 Q (F0 m 684 ls [])
  | 17 => ∀ (H : Heap) (locs : List Loc) (ls : Array Slot), St G M s H locs → lv_has ls 4 [] → W p l e room_1 s m args below meth c H locs 99 96175 Q (F0 m 743 ls [])
  | 18 => ∀ (H : Heap) (locs : List Loc) (ls : Array Slot), St G M s H locs → lv_has ls 4 [] → W p l e room_1 s m args below meth c H locs 99 96175 Q (F0 m 776 ls [])
  | 19 => ∀ (H : Heap) (locs : List Loc) (ls : Array Slot), St G M s H locs → lv_has ls 4 [] → W p l e room_1 s m args below meth c H locs 99 96175 Q (F0 m 819 ls [])
  | 20 => ∀ (H : Heap) (locs : List Loc) (ls : Array Slot), St G M s H locs → lv_has ls 4 [] → W p l e room_1 s m args below meth c H locs 99 96175 Q (F0 m 862 ls [])
  | 21 => ∀ (H : Heap) (locs : List Loc) (ls : Array Slot), St G M s H locs → lv_has ls 4 [] → W p l e room_1 s m args below meth c H locs 99 96175 Q (F0 m 895 ls [])
  | 22 => ∀ (H : Heap) (locs : List Loc) (ls : Array Slot), St G M s H locs → lv_has ls 4 [] → W p l e room_1 s m args below meth c H locs 99 96175 Q (F0 m 938 ls [])
  | 23 => ∀ (H : Heap) (locs : List Loc) (ls : Array Slot), St G M s H locs → lv_has ls 4 [] → W p l e room_1 s m args below meth c H locs 99 96175 Q (F0 m 991 ls [])
  | 24 => ∀ (H : Heap) (locs : List Loc) (ls : Array Slot), St G M s H locs → lv_has ls 4 [] → W p l e room_1 s m args below meth c H locs 99 96175 Q (F0 m 1044 ls [])
  | 25 => ∀ (H : Heap) (locs : List Loc) (ls : Array Slot), St G M s H locs → lv_has ls 4 [] → W p l e room_1 s m args below meth c H locs 99 96175 Q (F0 m 1077 ls [])
  | 26 => ∀ (H : Heap) (locs : List Loc) (ls : Array Slot), St G M s H locs → lv_has ls 4 [] → W p l e room_1 s m args below meth c H locs 99 96175 Q (F0 m 1085 ls [])
  | _ => True
set_option maxHeartbeats 4000000 in
set_option maxRecDepth 100000 in
theorem w_Law_law_J732 {G : Gl} {p : Program} {l : Launch} {e : Env} {s : State} {m : MethodId} {args : Array Value} {below : List Frame} {meth : Method} {c : Code} {Q : State → Prop} (C : Cx G cL_law 4 RL p s m args c) (b : Nat) (L : Nat) (xs : Nat → Int32) (hXs : va_X b L xs s s.heap ∧ b < s.heap.size ∧ ¬ gA G b) (F : Nat) (x3 : Int32) (y0 : Int32) (y2 : Int32) (y3 : Int32) (M : zM)  (q : Nat × (Int32 × zM)) (h : Law_law_J732 F L xs x3 y0 y2 y3 M = some q) (hE : (E_Law_law_18 G p l e s m args below meth c Q b L xs) q.1 q.2) (H : Heap) (locs : List Loc) (ls : Array Slot) (hS : St G M s H locs) (hl : lv_has ls 4 [(0, .ref b), (1, .ref (G.1 + 0)), (2, .ref (G.1 + 63)), (3, .int x3)]) : W p l e room_1 s m args below meth c H locs 99 96175 Q (F0 m 732 ls [.int y3, .int y2, .ref (G.1 + 63), .int y0]) := by
  obtain ⟨hx, hb, -⟩ := id C
  unfold Law_law_J732 at h
  refine lv_aload_n hx hb dL_law_732 rfl (lv_at hl 0 rfl) ?_
  refine lv_iload_n hx hb dL_law_733 rfl (lv_at hl 3 rfl) ?_
  refine lv_iconst (v := 3) hx hb dL_law_734 (by decide) ?_
  refine lv_iadd hx hb dL_law_735 ?_
  obtain ⟨b_135, h⟩ := ift h
  refine va_sld hx hb hXs.1 hXs.2.1 hXs.2.2 hS.2 (inb_in b_135) dL_law_736 ?_
  obtain ⟨⟨r_136, M_137⟩, hq_138, h⟩ := ob h
  try dsimp only at h
  refine r_thenI hS (r_runV C hS hl.1 cv_L_89 rfl (c_X11_find l G F y2 y3 (xs (x3 + 3).toNatClampNeg) M  _ hq_138) ⟨by decide, by decide⟩ rfl rfl (Nat.le_of_ble_eq_true rfl) ⟨by decide, by decide⟩ dL_law_737) (fun H locs hS => ?_)
  refine lv_icmp_eq (tgt := 1079) hx hb dL_law_740 (by decide) (fun c_139 => ?_) (fun c_139 => ?_)
  · replace h := ifp c_139 h
    obtain ⟨x3_140, e_141, h⟩ := olt h
    refine lv_iinc (v := x3_140) (lv' := [(3, .int x3_140), (0, .ref b), (1, .ref (G.1 + 0)), (2, .ref (G.1 + 63))]) hx hb dL_law_1079 hl (k := 3) rfl (by rw [e_141]; rfl) (by decide) rfl (fun ls hl => ?_)
    refine lv_goto (tgt := 18) hx hb dL_law_1082 (by decide) ?_
    obtain rfl := Option.some.inj h
    exact hE _ _ _ hS (lv_sub hl [1, 2, 3, 0] rfl)
  · replace h := ifn c_139 h
    obtain rfl := Option.some.inj h
    exact hE _ _ _ hS (lv_sub hl [] rfl)
set_option maxHeartbeats 4000000 in
set_option maxRecDepth 100000 in
theorem w_Law_law_J705 {G : Gl} {p : Program} {l : Launch} {e : Env} {s : State} {m : MethodId} {args : Array Value} {below : List Frame} {meth : Method} {c : Code} {Q : State → Prop} (C : Cx G cL_law 4 RL p s m args c) (b : Nat) (L : Nat) (xs : Nat → Int32) (hXs : va_X b L xs s s.heap ∧ b < s.heap.size ∧ ¬ gA G b) (F : Nat) (x3 : Int32) (y1 : Int32) (y2 : Int32) (M : zM)  (q : Nat × (Int32 × zM)) (h : Law_law_J705 F L xs x3 y1 y2 M = some q) (hE : (E_Law_law_18 G p l e s m args below meth c Q b L xs) q.1 q.2) (H : Heap) (locs : List Loc) (ls : Array Slot) (hS : St G M s H locs) (hl : lv_has ls 4 [(0, .ref b), (1, .ref (G.1 + 0)), (2, .ref (G.1 + 63)), (3, .int x3)]) : W p l e room_1 s m args below meth c H locs 99 96175 Q (F0 m 705 ls [.int y2, .int y1, .ref (G.1 + 0)]) := by
  obtain ⟨hx, hb, -⟩ := id C
  unfold Law_law_J705 at h
  refine lv_aload_n hx hb dL_law_705 rfl (lv_at hl 0 rfl) ?_
  refine lv_iload_n hx hb dL_law_706 rfl (lv_at hl 3 rfl) ?_
  refine lv_iconst (v := 3) hx hb dL_law_707 (by decide) ?_
  refine lv_iadd hx hb dL_law_708 ?_
  obtain ⟨b_128, h⟩ := ift h
  refine va_sld hx hb hXs.1 hXs.2.1 hXs.2.2 hS.2 (inb_in b_128) dL_law_709 ?_
  obtain ⟨⟨r_129, M_130⟩, hq_131, h⟩ := ob h
  try dsimp only at h
  refine r_thenI hS (r_runV C hS hl.1 cv_L_85 rfl (c_X10_find l G F y1 y2 (xs (x3 + 3).toNatClampNeg) M  _ hq_131) ⟨by decide, by decide⟩ rfl rfl (Nat.le_of_ble_eq_true rfl) ⟨by decide, by decide⟩ dL_law_710) (fun H locs hS => ?_)
  refine lv_aload_n hx hb dL_law_713 rfl (lv_at hl 2 rfl) ?_
  refine lv_aload_n hx hb dL_law_714 rfl (lv_at hl 0 rfl) ?_
  refine lv_iload_n hx hb dL_law_715 rfl (lv_at hl 3 rfl) ?_
  refine lv_iconst (v := 1) hx hb dL_law_716 (by decide) ?_
  refine lv_iadd hx hb dL_law_717 ?_
  obtain ⟨b_132, h⟩ := ift h
  refine va_sld hx hb hXs.1 hXs.2.1 hXs.2.2 hS.2 (inb_in b_132) dL_law_718 ?_
  refine lv_aload_n hx hb dL_law_719 rfl (lv_at hl 0 rfl) ?_
  refine lv_iload_n hx hb dL_law_720 rfl (lv_at hl 3 rfl) ?_
  refine lv_iconst (v := 2) hx hb dL_law_721 (by decide) ?_
  refine lv_iadd hx hb dL_law_722 ?_
  obtain ⟨b_133, h⟩ := ift h
  refine va_sld hx hb hXs.1 hXs.2.1 hXs.2.2 hS.2 (inb_in b_133) dL_law_723 ?_
  refine lv_if_eq (tgt := 731) hx hb dL_law_724 (by decide) (fun c_134 => ?_) (fun c_134 => ?_)
  · replace h := ifp c_134 h
    refine lv_iconst (v := 0) hx hb dL_law_731 (by decide) ?_
    exact w_Law_law_J732 C b L xs hXs F x3 r_129 (xs (x3 + 1).toNatClampNeg) 0 M_130  q h hE _ _ _ hS (lv_sub hl [0, 1, 2, 3] rfl)
  · replace h := ifn c_134 h
    refine lv_iconst (v := 1) hx hb dL_law_727 (by decide) ?_
    refine lv_goto (tgt := 732) hx hb dL_law_728 (by decide) ?_
    exact w_Law_law_J732 C b L xs hXs F x3 r_129 (xs (x3 + 1).toNatClampNeg) 1 M_130  q h hE _ _ _ hS (lv_sub hl [0, 1, 2, 3] rfl)
set_option maxHeartbeats 4000000 in
set_option maxRecDepth 100000 in
theorem w_Law_law_B18 {G : Gl} {p : Program} {l : Launch} {e : Env} {s : State} {m : MethodId} {args : Array Value} {below : List Frame} {meth : Method} {c : Code} {Q : State → Prop} (C : Cx G cL_law 4 RL p s m args c) (b : Nat) (L : Nat) (xs : Nat → Int32) (hXs : va_X b L xs s s.heap ∧ b < s.heap.size ∧ ¬ gA G b) (F : Nat) : ∀ (σ : (Int32 × zM)) (q : Nat × (Int32 × zM)), Law_law_B18 F b L xs σ = some q → (E_Law_law_18 G p l e s m args below meth c Q b L xs) q.1 q.2 → (E_Law_law_18 G p l e s m args below meth c Q b L xs) 0 σ := by
  intro (x3, M) q h hE H locs ls hS hl
  obtain ⟨hx, hb, -⟩ := id C
  unfold Law_law_B18 at h
  try dsimp only at h
  refine lv_iload_n hx hb dL_law_18 rfl (lv_at hl 3 rfl) ?_
  refine lv_aload_n hx hb dL_law_19 rfl (lv_at hl 0 rfl) ?_
  refine va_slen hx hb hXs.1 hXs.2.1 hXs.2.2 hS.2 dL_law_20 ?_
  refine lv_iconst (v := 5) hx hb dL_law_21 (by decide) ?_
  refine lv_isub hx hb dL_law_22 ?_
  refine lv_icmp_gt (tgt := 1085) hx hb dL_law_23 (by decide) (fun c_1 => ?_) (fun c_1 => ?_)
  · replace h := ifp c_1 h
    obtain rfl := Option.some.inj h
    exact hE _ _ _ hS (lv_sub hl [] rfl)
  · replace h := ifn c_1 h
    refine lv_aload_n hx hb dL_law_26 rfl (lv_at hl 0 rfl) ?_
    refine lv_iload_n hx hb dL_law_27 rfl (lv_at hl 3 rfl) ?_
    obtain ⟨b_2, h⟩ := ift h
    refine va_sld hx hb hXs.1 hXs.2.1 hXs.2.2 hS.2 (inb_in b_2) dL_law_28 ?_
    refine lv_bipush (v := 31) hx hb dL_law_29 (by decide) ?_
    refine lv_iand hx hb dL_law_31 ?_
    by_cases c_3 : ((xs x3.toNatClampNeg) &&& 31) = 0
    · replace h := ifp c_3 h
      refine r_nI c_3.symm ?_
      refine lv_tableIn (tgt := 148) (off := 116) hx hb dL_law_32 (by decide) (by decide) (by decide) (by decide) ?_
      refine lv_aload_n hx hb dL_law_148 rfl (lv_at hl 1 rfl) ?_
      refine lv_aload_n hx hb dL_law_149 rfl (lv_at hl 0 rfl) ?_
      refine lv_iload_n hx hb dL_law_150 rfl (lv_at hl 3 rfl) ?_
      refine lv_iconst (v := 1) hx hb dL_law_151 (by decide) ?_
      refine lv_iadd hx hb dL_law_152 ?_
      obtain ⟨b_305, h⟩ := ift h
      refine va_sld hx hb hXs.1 hXs.2.1 hXs.2.2 hS.2 (inb_in b_305) dL_law_153 ?_
      refine lv_aload_n hx hb dL_law_154 rfl (lv_at hl 0 rfl) ?_
      refine lv_iload_n hx hb dL_law_155 rfl (lv_at hl 3 rfl) ?_
      refine lv_iconst (v := 2) hx hb dL_law_156 (by decide) ?_
      refine lv_iadd hx hb dL_law_157 ?_
      obtain ⟨b_306, h⟩ := ift h
      refine va_sld hx hb hXs.1 hXs.2.1 hXs.2.2 hS.2 (inb_in b_306) dL_law_158 ?_
      refine lv_i2l (v := (xs (x3 + 2).toNatClampNeg).toInt64) hx hb dL_law_159 rfl ?_
      refine lv_bipush (v := 32) hx hb dL_law_160 (by decide) ?_
      refine lv_lshl (v := sl ((xs (x3 + 2).toNatClampNeg).toInt64) 32) hx hb dL_law_162 rfl ?_
      refine lv_aload_n hx hb dL_law_163 rfl (lv_at hl 0 rfl) ?_
      refine lv_iload_n hx hb dL_law_164 rfl (lv_at hl 3 rfl) ?_
      refine lv_iconst (v := 3) hx hb dL_law_165 (by decide) ?_
      refine lv_iadd hx hb dL_law_166 ?_
      obtain ⟨b_307, h⟩ := ift h
      refine va_sld hx hb hXs.1 hXs.2.1 hXs.2.2 hS.2 (inb_in b_307) dL_law_167 ?_
      refine lv_i2l (v := (xs (x3 + 3).toNatClampNeg).toInt64) hx hb dL_law_168 rfl ?_
      refine lv_ldc2 hx hb C.2.2.2.1 (C.2.2.2.2.1 _ tw_1298) dL_law_169 ?_
      refine lv_land hx hb dL_law_172 ?_
      refine lv_lor hx hb dL_law_173 ?_
      obtain ⟨⟨r_308, M_309⟩, hq_310, h⟩ := ob h
      try dsimp only at h
      refine r_thenI hS (r_runV C hS hl.1 cv_L_15 rfl (c_X10_feed l G F (xs (x3 + 1).toNatClampNeg) ((sl ((xs (x3 + 2).toNatClampNeg).toInt64) 32) ||| (((xs (x3 + 3).toNatClampNeg).toInt64) &&& 4294967295)) M  _ hq_310) ⟨by decide, by decide⟩ rfl rfl (Nat.le_of_ble_eq_true rfl) ⟨by decide, by decide⟩ dL_law_174) (fun H locs hS => ?_)
      refine lv_aload_n hx hb dL_law_177 rfl (lv_at hl 2 rfl) ?_
      refine lv_aload_n hx hb dL_law_178 rfl (lv_at hl 0 rfl) ?_
      refine lv_iload_n hx hb dL_law_179 rfl (lv_at hl 3 rfl) ?_
      refine lv_iconst (v := 1) hx hb dL_law_180 (by decide) ?_
      refine lv_iadd hx hb dL_law_181 ?_
      refine va_sld hx hb hXs.1 hXs.2.1 hXs.2.2 hS.2 (inb_in b_305) dL_law_182 ?_
      refine lv_aload_n hx hb dL_law_183 rfl (lv_at hl 0 rfl) ?_
      refine lv_iload_n hx hb dL_law_184 rfl (lv_at hl 3 rfl) ?_
      refine lv_iconst (v := 2) hx hb dL_law_185 (by decide) ?_
      refine lv_iadd hx hb dL_law_186 ?_
      refine va_sld hx hb hXs.1 hXs.2.1 hXs.2.2 hS.2 (inb_in b_306) dL_law_187 ?_
      refine lv_i2l (v := (xs (x3 + 2).toNatClampNeg).toInt64) hx hb dL_law_188 rfl ?_
      refine lv_bipush (v := 32) hx hb dL_law_189 (by decide) ?_
      refine lv_lshl (v := sl ((xs (x3 + 2).toNatClampNeg).toInt64) 32) hx hb dL_law_191 rfl ?_
      refine lv_aload_n hx hb dL_law_192 rfl (lv_at hl 0 rfl) ?_
      refine lv_iload_n hx hb dL_law_193 rfl (lv_at hl 3 rfl) ?_
      refine lv_iconst (v := 3) hx hb dL_law_194 (by decide) ?_
      refine lv_iadd hx hb dL_law_195 ?_
      refine va_sld hx hb hXs.1 hXs.2.1 hXs.2.2 hS.2 (inb_in b_307) dL_law_196 ?_
      refine lv_i2l (v := (xs (x3 + 3).toNatClampNeg).toInt64) hx hb dL_law_197 rfl ?_
      refine lv_ldc2 hx hb C.2.2.2.1 (C.2.2.2.2.1 _ tw_1298) dL_law_198 ?_
      refine lv_land hx hb dL_law_201 ?_
      refine lv_lor hx hb dL_law_202 ?_
      obtain ⟨⟨r_311, M_312⟩, hq_313, h⟩ := ob h
      try dsimp only at h
      refine r_thenI hS (r_runV C hS hl.1 cv_L_19 rfl (c_X11_feed l G F (xs (x3 + 1).toNatClampNeg) ((sl ((xs (x3 + 2).toNatClampNeg).toInt64) 32) ||| (((xs (x3 + 3).toNatClampNeg).toInt64) &&& 4294967295)) M_309  _ hq_313) ⟨by decide, by decide⟩ rfl rfl (Nat.le_of_ble_eq_true rfl) ⟨by decide, by decide⟩ dL_law_203) (fun H locs hS => ?_)
      refine lv_icmp_eq (tgt := 1079) hx hb dL_law_206 (by decide) (fun c_314 => ?_) (fun c_314 => ?_)
      · replace h := ifp c_314 h
        obtain ⟨x3_315, e_316, h⟩ := olt h
        refine lv_iinc (v := x3_315) (lv' := [(3, .int x3_315), (0, .ref b), (1, .ref (G.1 + 0)), (2, .ref (G.1 + 63))]) hx hb dL_law_1079 hl (k := 3) rfl (by rw [e_316]; rfl) (by decide) rfl (fun ls hl => ?_)
        refine lv_goto (tgt := 18) hx hb dL_law_1082 (by decide) ?_
        obtain rfl := Option.some.inj h
        exact hE _ _ _ hS (lv_sub hl [1, 2, 3, 0] rfl)
      · replace h := ifn c_314 h
        obtain rfl := Option.some.inj h
        exact hE _ _ _ hS (lv_sub hl [] rfl)
    · replace h := ifn c_3 h
      by_cases c_4 : ((xs x3.toNatClampNeg) &&& 31) = 1
      · replace h := ifp c_4 h
        refine r_nI c_4.symm ?_
        refine lv_tableIn (tgt := 211) (off := 179) hx hb dL_law_32 (by decide) (by decide) (by decide) (by decide) ?_
        refine lv_aload_n hx hb dL_law_211 rfl (lv_at hl 1 rfl) ?_
        refine lv_aload_n hx hb dL_law_212 rfl (lv_at hl 0 rfl) ?_
        refine lv_iload_n hx hb dL_law_213 rfl (lv_at hl 3 rfl) ?_
        refine lv_iconst (v := 1) hx hb dL_law_214 (by decide) ?_
        refine lv_iadd hx hb dL_law_215 ?_
        obtain ⟨b_295, h⟩ := ift h
        refine va_sld hx hb hXs.1 hXs.2.1 hXs.2.2 hS.2 (inb_in b_295) dL_law_216 ?_
        obtain ⟨⟨r_296, M_297⟩, hq_298, h⟩ := ob h
        try dsimp only at h
        refine r_thenI hS (r_runV C hS hl.1 cv_L_20 rfl (c_X10_read l G F (xs (x3 + 1).toNatClampNeg) M  _ hq_298) ⟨by decide, by decide⟩ rfl rfl (Nat.le_of_ble_eq_true rfl) ⟨by decide, by decide⟩ dL_law_217) (fun H locs hS => ?_)
        refine lv_aload_n hx hb dL_law_220 rfl (lv_at hl 2 rfl) ?_
        refine lv_aload_n hx hb dL_law_221 rfl (lv_at hl 0 rfl) ?_
        refine lv_iload_n hx hb dL_law_222 rfl (lv_at hl 3 rfl) ?_
        refine lv_iconst (v := 1) hx hb dL_law_223 (by decide) ?_
        refine lv_iadd hx hb dL_law_224 ?_
        refine va_sld hx hb hXs.1 hXs.2.1 hXs.2.2 hS.2 (inb_in b_295) dL_law_225 ?_
        obtain ⟨⟨r_299, M_300⟩, hq_301, h⟩ := ob h
        try dsimp only at h
        refine r_thenI hS (r_runV C hS hl.1 cv_L_24 rfl (c_X11_read l G F (xs (x3 + 1).toNatClampNeg) M_297  _ hq_301) ⟨by decide, by decide⟩ rfl rfl (Nat.le_of_ble_eq_true rfl) ⟨by decide, by decide⟩ dL_law_226) (fun H locs hS => ?_)
        refine lv_icmp_eq (tgt := 1079) hx hb dL_law_229 (by decide) (fun c_302 => ?_) (fun c_302 => ?_)
        · replace h := ifp c_302 h
          obtain ⟨x3_303, e_304, h⟩ := olt h
          refine lv_iinc (v := x3_303) (lv' := [(3, .int x3_303), (0, .ref b), (1, .ref (G.1 + 0)), (2, .ref (G.1 + 63))]) hx hb dL_law_1079 hl (k := 3) rfl (by rw [e_304]; rfl) (by decide) rfl (fun ls hl => ?_)
          refine lv_goto (tgt := 18) hx hb dL_law_1082 (by decide) ?_
          obtain rfl := Option.some.inj h
          exact hE _ _ _ hS (lv_sub hl [1, 2, 3, 0] rfl)
        · replace h := ifn c_302 h
          obtain rfl := Option.some.inj h
          exact hE _ _ _ hS (lv_sub hl [] rfl)
      · replace h := ifn c_4 h
        by_cases c_5 : ((xs x3.toNatClampNeg) &&& 31) = 2
        · replace h := ifp c_5 h
          refine r_nI c_5.symm ?_
          refine lv_tableIn (tgt := 234) (off := 202) hx hb dL_law_32 (by decide) (by decide) (by decide) (by decide) ?_
          refine lv_aload_n hx hb dL_law_234 rfl (lv_at hl 1 rfl) ?_
          obtain ⟨⟨r_286, M_287⟩, hq_288, h⟩ := ob h
          try dsimp only at h
          refine r_thenI hS (r_runV C hS hl.1 cv_L_25 rfl (c_X10_fault l G F  M  _ hq_288) ⟨by decide, by decide⟩ rfl rfl (Nat.le_of_ble_eq_true rfl) ⟨by decide, by decide⟩ dL_law_235) (fun H locs hS => ?_)
          refine lv_aload_n hx hb dL_law_238 rfl (lv_at hl 2 rfl) ?_
          obtain ⟨⟨r_289, M_290⟩, hq_291, h⟩ := ob h
          try dsimp only at h
          refine r_thenI hS (r_runV C hS hl.1 cv_L_29 rfl (c_X11_fault l G F  M_287  _ hq_291) ⟨by decide, by decide⟩ rfl rfl (Nat.le_of_ble_eq_true rfl) ⟨by decide, by decide⟩ dL_law_239) (fun H locs hS => ?_)
          refine lv_icmp_eq (tgt := 1079) hx hb dL_law_242 (by decide) (fun c_292 => ?_) (fun c_292 => ?_)
          · replace h := ifp c_292 h
            obtain ⟨x3_293, e_294, h⟩ := olt h
            refine lv_iinc (v := x3_293) (lv' := [(3, .int x3_293), (0, .ref b), (1, .ref (G.1 + 0)), (2, .ref (G.1 + 63))]) hx hb dL_law_1079 hl (k := 3) rfl (by rw [e_294]; rfl) (by decide) rfl (fun ls hl => ?_)
            refine lv_goto (tgt := 18) hx hb dL_law_1082 (by decide) ?_
            obtain rfl := Option.some.inj h
            exact hE _ _ _ hS (lv_sub hl [1, 2, 3, 0] rfl)
          · replace h := ifn c_292 h
            obtain rfl := Option.some.inj h
            exact hE _ _ _ hS (lv_sub hl [] rfl)
        · replace h := ifn c_5 h
          by_cases c_6 : ((xs x3.toNatClampNeg) &&& 31) = 3
          · replace h := ifp c_6 h
            refine r_nI c_6.symm ?_
            refine lv_tableIn (tgt := 247) (off := 215) hx hb dL_law_32 (by decide) (by decide) (by decide) (by decide) ?_
            refine lv_aload_n hx hb dL_law_247 rfl (lv_at hl 1 rfl) ?_
            refine lv_aload_n hx hb dL_law_248 rfl (lv_at hl 0 rfl) ?_
            refine lv_iload_n hx hb dL_law_249 rfl (lv_at hl 3 rfl) ?_
            refine lv_iconst (v := 1) hx hb dL_law_250 (by decide) ?_
            refine lv_iadd hx hb dL_law_251 ?_
            obtain ⟨b_275, h⟩ := ift h
            refine va_sld hx hb hXs.1 hXs.2.1 hXs.2.2 hS.2 (inb_in b_275) dL_law_252 ?_
            refine lv_aload_n hx hb dL_law_253 rfl (lv_at hl 0 rfl) ?_
            refine lv_iload_n hx hb dL_law_254 rfl (lv_at hl 3 rfl) ?_
            refine lv_iconst (v := 2) hx hb dL_law_255 (by decide) ?_
            refine lv_iadd hx hb dL_law_256 ?_
            obtain ⟨b_276, h⟩ := ift h
            refine va_sld hx hb hXs.1 hXs.2.1 hXs.2.2 hS.2 (inb_in b_276) dL_law_257 ?_
            obtain ⟨⟨r_277, M_278⟩, hq_279, h⟩ := ob h
            try dsimp only at h
            refine r_thenI hS (r_runV C hS hl.1 cv_L_30 rfl (c_X10_about l G F (xs (x3 + 1).toNatClampNeg) (xs (x3 + 2).toNatClampNeg) M  _ hq_279) ⟨by decide, by decide⟩ rfl rfl (Nat.le_of_ble_eq_true rfl) ⟨by decide, by decide⟩ dL_law_258) (fun H locs hS => ?_)
            refine lv_aload_n hx hb dL_law_261 rfl (lv_at hl 2 rfl) ?_
            refine lv_aload_n hx hb dL_law_262 rfl (lv_at hl 0 rfl) ?_
            refine lv_iload_n hx hb dL_law_263 rfl (lv_at hl 3 rfl) ?_
            refine lv_iconst (v := 1) hx hb dL_law_264 (by decide) ?_
            refine lv_iadd hx hb dL_law_265 ?_
            refine va_sld hx hb hXs.1 hXs.2.1 hXs.2.2 hS.2 (inb_in b_275) dL_law_266 ?_
            refine lv_aload_n hx hb dL_law_267 rfl (lv_at hl 0 rfl) ?_
            refine lv_iload_n hx hb dL_law_268 rfl (lv_at hl 3 rfl) ?_
            refine lv_iconst (v := 2) hx hb dL_law_269 (by decide) ?_
            refine lv_iadd hx hb dL_law_270 ?_
            refine va_sld hx hb hXs.1 hXs.2.1 hXs.2.2 hS.2 (inb_in b_276) dL_law_271 ?_
            obtain ⟨⟨r_280, M_281⟩, hq_282, h⟩ := ob h
            try dsimp only at h
            refine r_thenI hS (r_runV C hS hl.1 cv_L_34 rfl (c_X11_about l G F (xs (x3 + 1).toNatClampNeg) (xs (x3 + 2).toNatClampNeg) M_278  _ hq_282) ⟨by decide, by decide⟩ rfl rfl (Nat.le_of_ble_eq_true rfl) ⟨by decide, by decide⟩ dL_law_272) (fun H locs hS => ?_)
            refine lv_icmp_eq (tgt := 1079) hx hb dL_law_275 (by decide) (fun c_283 => ?_) (fun c_283 => ?_)
            · replace h := ifp c_283 h
              obtain ⟨x3_284, e_285, h⟩ := olt h
              refine lv_iinc (v := x3_284) (lv' := [(3, .int x3_284), (0, .ref b), (1, .ref (G.1 + 0)), (2, .ref (G.1 + 63))]) hx hb dL_law_1079 hl (k := 3) rfl (by rw [e_285]; rfl) (by decide) rfl (fun ls hl => ?_)
              refine lv_goto (tgt := 18) hx hb dL_law_1082 (by decide) ?_
              obtain rfl := Option.some.inj h
              exact hE _ _ _ hS (lv_sub hl [1, 2, 3, 0] rfl)
            · replace h := ifn c_283 h
              obtain rfl := Option.some.inj h
              exact hE _ _ _ hS (lv_sub hl [] rfl)
          · replace h := ifn c_6 h
            by_cases c_7 : ((xs x3.toNatClampNeg) &&& 31) = 4
            · replace h := ifp c_7 h
              refine r_nI c_7.symm ?_
              refine lv_tableIn (tgt := 280) (off := 248) hx hb dL_law_32 (by decide) (by decide) (by decide) (by decide) ?_
              refine lv_aload_n hx hb dL_law_280 rfl (lv_at hl 1 rfl) ?_
              refine lv_aload_n hx hb dL_law_281 rfl (lv_at hl 0 rfl) ?_
              refine lv_iload_n hx hb dL_law_282 rfl (lv_at hl 3 rfl) ?_
              refine lv_iconst (v := 1) hx hb dL_law_283 (by decide) ?_
              refine lv_iadd hx hb dL_law_284 ?_
              obtain ⟨b_263, h⟩ := ift h
              refine va_sld hx hb hXs.1 hXs.2.1 hXs.2.2 hS.2 (inb_in b_263) dL_law_285 ?_
              refine lv_aload_n hx hb dL_law_286 rfl (lv_at hl 0 rfl) ?_
              refine lv_iload_n hx hb dL_law_287 rfl (lv_at hl 3 rfl) ?_
              refine lv_iconst (v := 2) hx hb dL_law_288 (by decide) ?_
              refine lv_iadd hx hb dL_law_289 ?_
              obtain ⟨b_264, h⟩ := ift h
              refine va_sld hx hb hXs.1 hXs.2.1 hXs.2.2 hS.2 (inb_in b_264) dL_law_290 ?_
              refine lv_aload_n hx hb dL_law_291 rfl (lv_at hl 0 rfl) ?_
              refine lv_iload_n hx hb dL_law_292 rfl (lv_at hl 3 rfl) ?_
              refine lv_iconst (v := 3) hx hb dL_law_293 (by decide) ?_
              refine lv_iadd hx hb dL_law_294 ?_
              obtain ⟨b_265, h⟩ := ift h
              refine va_sld hx hb hXs.1 hXs.2.1 hXs.2.2 hS.2 (inb_in b_265) dL_law_295 ?_
              obtain ⟨⟨r_266, M_267⟩, hq_268, h⟩ := ob h
              try dsimp only at h
              refine r_thenI hS (r_runV C hS hl.1 cv_L_35 rfl (c_X10_name l G F (xs (x3 + 1).toNatClampNeg) (xs (x3 + 2).toNatClampNeg) (xs (x3 + 3).toNatClampNeg) M  _ hq_268) ⟨by decide, by decide⟩ rfl rfl (Nat.le_of_ble_eq_true rfl) ⟨by decide, by decide⟩ dL_law_296) (fun H locs hS => ?_)
              refine lv_aload_n hx hb dL_law_299 rfl (lv_at hl 2 rfl) ?_
              refine lv_aload_n hx hb dL_law_300 rfl (lv_at hl 0 rfl) ?_
              refine lv_iload_n hx hb dL_law_301 rfl (lv_at hl 3 rfl) ?_
              refine lv_iconst (v := 1) hx hb dL_law_302 (by decide) ?_
              refine lv_iadd hx hb dL_law_303 ?_
              refine va_sld hx hb hXs.1 hXs.2.1 hXs.2.2 hS.2 (inb_in b_263) dL_law_304 ?_
              refine lv_aload_n hx hb dL_law_305 rfl (lv_at hl 0 rfl) ?_
              refine lv_iload_n hx hb dL_law_306 rfl (lv_at hl 3 rfl) ?_
              refine lv_iconst (v := 2) hx hb dL_law_307 (by decide) ?_
              refine lv_iadd hx hb dL_law_308 ?_
              refine va_sld hx hb hXs.1 hXs.2.1 hXs.2.2 hS.2 (inb_in b_264) dL_law_309 ?_
              refine lv_aload_n hx hb dL_law_310 rfl (lv_at hl 0 rfl) ?_
              refine lv_iload_n hx hb dL_law_311 rfl (lv_at hl 3 rfl) ?_
              refine lv_iconst (v := 3) hx hb dL_law_312 (by decide) ?_
              refine lv_iadd hx hb dL_law_313 ?_
              refine va_sld hx hb hXs.1 hXs.2.1 hXs.2.2 hS.2 (inb_in b_265) dL_law_314 ?_
              obtain ⟨⟨r_269, M_270⟩, hq_271, h⟩ := ob h
              try dsimp only at h
              refine r_thenI hS (r_runV C hS hl.1 cv_L_39 rfl (c_X11_name l G F (xs (x3 + 1).toNatClampNeg) (xs (x3 + 2).toNatClampNeg) (xs (x3 + 3).toNatClampNeg) M_267  _ hq_271) ⟨by decide, by decide⟩ rfl rfl (Nat.le_of_ble_eq_true rfl) ⟨by decide, by decide⟩ dL_law_315) (fun H locs hS => ?_)
              refine lv_icmp_eq (tgt := 1079) hx hb dL_law_318 (by decide) (fun c_272 => ?_) (fun c_272 => ?_)
              · replace h := ifp c_272 h
                obtain ⟨x3_273, e_274, h⟩ := olt h
                refine lv_iinc (v := x3_273) (lv' := [(3, .int x3_273), (0, .ref b), (1, .ref (G.1 + 0)), (2, .ref (G.1 + 63))]) hx hb dL_law_1079 hl (k := 3) rfl (by rw [e_274]; rfl) (by decide) rfl (fun ls hl => ?_)
                refine lv_goto (tgt := 18) hx hb dL_law_1082 (by decide) ?_
                obtain rfl := Option.some.inj h
                exact hE _ _ _ hS (lv_sub hl [1, 2, 3, 0] rfl)
              · replace h := ifn c_272 h
                obtain rfl := Option.some.inj h
                exact hE _ _ _ hS (lv_sub hl [] rfl)
            · replace h := ifn c_7 h
              by_cases c_8 : ((xs x3.toNatClampNeg) &&& 31) = 5
              · replace h := ifp c_8 h
                refine r_nI c_8.symm ?_
                refine lv_tableIn (tgt := 323) (off := 291) hx hb dL_law_32 (by decide) (by decide) (by decide) (by decide) ?_
                refine lv_aload_n hx hb dL_law_323 rfl (lv_at hl 1 rfl) ?_
                refine lv_aload_n hx hb dL_law_324 rfl (lv_at hl 0 rfl) ?_
                refine lv_iload_n hx hb dL_law_325 rfl (lv_at hl 3 rfl) ?_
                refine lv_iconst (v := 1) hx hb dL_law_326 (by decide) ?_
                refine lv_iadd hx hb dL_law_327 ?_
                obtain ⟨b_252, h⟩ := ift h
                refine va_sld hx hb hXs.1 hXs.2.1 hXs.2.2 hS.2 (inb_in b_252) dL_law_328 ?_
                refine lv_aload_n hx hb dL_law_329 rfl (lv_at hl 0 rfl) ?_
                refine lv_iload_n hx hb dL_law_330 rfl (lv_at hl 3 rfl) ?_
                refine lv_iconst (v := 2) hx hb dL_law_331 (by decide) ?_
                refine lv_iadd hx hb dL_law_332 ?_
                obtain ⟨b_253, h⟩ := ift h
                refine va_sld hx hb hXs.1 hXs.2.1 hXs.2.2 hS.2 (inb_in b_253) dL_law_333 ?_
                obtain ⟨⟨r_254, M_255⟩, hq_256, h⟩ := ob h
                try dsimp only at h
                refine r_thenI hS (r_runV C hS hl.1 cv_L_40 rfl (c_X10_letters l G F (xs (x3 + 1).toNatClampNeg) (xs (x3 + 2).toNatClampNeg) M  _ hq_256) ⟨by decide, by decide⟩ rfl rfl (Nat.le_of_ble_eq_true rfl) ⟨by decide, by decide⟩ dL_law_334) (fun H locs hS => ?_)
                refine lv_aload_n hx hb dL_law_337 rfl (lv_at hl 2 rfl) ?_
                refine lv_aload_n hx hb dL_law_338 rfl (lv_at hl 0 rfl) ?_
                refine lv_iload_n hx hb dL_law_339 rfl (lv_at hl 3 rfl) ?_
                refine lv_iconst (v := 1) hx hb dL_law_340 (by decide) ?_
                refine lv_iadd hx hb dL_law_341 ?_
                refine va_sld hx hb hXs.1 hXs.2.1 hXs.2.2 hS.2 (inb_in b_252) dL_law_342 ?_
                refine lv_aload_n hx hb dL_law_343 rfl (lv_at hl 0 rfl) ?_
                refine lv_iload_n hx hb dL_law_344 rfl (lv_at hl 3 rfl) ?_
                refine lv_iconst (v := 2) hx hb dL_law_345 (by decide) ?_
                refine lv_iadd hx hb dL_law_346 ?_
                refine va_sld hx hb hXs.1 hXs.2.1 hXs.2.2 hS.2 (inb_in b_253) dL_law_347 ?_
                obtain ⟨⟨r_257, M_258⟩, hq_259, h⟩ := ob h
                try dsimp only at h
                refine r_thenI hS (r_runV C hS hl.1 cv_L_43 rfl (c_X11_letters l G F (xs (x3 + 1).toNatClampNeg) (xs (x3 + 2).toNatClampNeg) M_255  _ hq_259) ⟨by decide, by decide⟩ rfl rfl (Nat.le_of_ble_eq_true rfl) ⟨by decide, by decide⟩ dL_law_348) (fun H locs hS => ?_)
                refine lv_icmp_eq (tgt := 1079) hx hb dL_law_351 (by decide) (fun c_260 => ?_) (fun c_260 => ?_)
                · replace h := ifp c_260 h
                  obtain ⟨x3_261, e_262, h⟩ := olt h
                  refine lv_iinc (v := x3_261) (lv' := [(3, .int x3_261), (0, .ref b), (1, .ref (G.1 + 0)), (2, .ref (G.1 + 63))]) hx hb dL_law_1079 hl (k := 3) rfl (by rw [e_262]; rfl) (by decide) rfl (fun ls hl => ?_)
                  refine lv_goto (tgt := 18) hx hb dL_law_1082 (by decide) ?_
                  obtain rfl := Option.some.inj h
                  exact hE _ _ _ hS (lv_sub hl [1, 2, 3, 0] rfl)
                · replace h := ifn c_260 h
                  obtain rfl := Option.some.inj h
                  exact hE _ _ _ hS (lv_sub hl [] rfl)
              · replace h := ifn c_8 h
                by_cases c_9 : ((xs x3.toNatClampNeg) &&& 31) = 6
                · replace h := ifp c_9 h
                  refine r_nI c_9.symm ?_
                  refine lv_tableIn (tgt := 356) (off := 324) hx hb dL_law_32 (by decide) (by decide) (by decide) (by decide) ?_
                  refine lv_aload_n hx hb dL_law_356 rfl (lv_at hl 1 rfl) ?_
                  refine lv_aload_n hx hb dL_law_357 rfl (lv_at hl 0 rfl) ?_
                  refine lv_iload_n hx hb dL_law_358 rfl (lv_at hl 3 rfl) ?_
                  refine lv_iconst (v := 1) hx hb dL_law_359 (by decide) ?_
                  refine lv_iadd hx hb dL_law_360 ?_
                  obtain ⟨b_241, h⟩ := ift h
                  refine va_sld hx hb hXs.1 hXs.2.1 hXs.2.2 hS.2 (inb_in b_241) dL_law_361 ?_
                  refine lv_aload_n hx hb dL_law_362 rfl (lv_at hl 0 rfl) ?_
                  refine lv_iload_n hx hb dL_law_363 rfl (lv_at hl 3 rfl) ?_
                  refine lv_iconst (v := 2) hx hb dL_law_364 (by decide) ?_
                  refine lv_iadd hx hb dL_law_365 ?_
                  obtain ⟨b_242, h⟩ := ift h
                  refine va_sld hx hb hXs.1 hXs.2.1 hXs.2.2 hS.2 (inb_in b_242) dL_law_366 ?_
                  obtain ⟨⟨r_243, M_244⟩, hq_245, h⟩ := ob h
                  try dsimp only at h
                  refine r_thenI hS (r_runV C hS hl.1 cv_L_44 rfl (c_X10_by l G F (xs (x3 + 1).toNatClampNeg) (xs (x3 + 2).toNatClampNeg) M  _ hq_245) ⟨by decide, by decide⟩ rfl rfl (Nat.le_of_ble_eq_true rfl) ⟨by decide, by decide⟩ dL_law_367) (fun H locs hS => ?_)
                  refine lv_aload_n hx hb dL_law_370 rfl (lv_at hl 2 rfl) ?_
                  refine lv_aload_n hx hb dL_law_371 rfl (lv_at hl 0 rfl) ?_
                  refine lv_iload_n hx hb dL_law_372 rfl (lv_at hl 3 rfl) ?_
                  refine lv_iconst (v := 1) hx hb dL_law_373 (by decide) ?_
                  refine lv_iadd hx hb dL_law_374 ?_
                  refine va_sld hx hb hXs.1 hXs.2.1 hXs.2.2 hS.2 (inb_in b_241) dL_law_375 ?_
                  refine lv_aload_n hx hb dL_law_376 rfl (lv_at hl 0 rfl) ?_
                  refine lv_iload_n hx hb dL_law_377 rfl (lv_at hl 3 rfl) ?_
                  refine lv_iconst (v := 2) hx hb dL_law_378 (by decide) ?_
                  refine lv_iadd hx hb dL_law_379 ?_
                  refine va_sld hx hb hXs.1 hXs.2.1 hXs.2.2 hS.2 (inb_in b_242) dL_law_380 ?_
                  obtain ⟨⟨r_246, M_247⟩, hq_248, h⟩ := ob h
                  try dsimp only at h
                  refine r_thenI hS (r_runV C hS hl.1 cv_L_47 rfl (c_X11_by l G F (xs (x3 + 1).toNatClampNeg) (xs (x3 + 2).toNatClampNeg) M_244  _ hq_248) ⟨by decide, by decide⟩ rfl rfl (Nat.le_of_ble_eq_true rfl) ⟨by decide, by decide⟩ dL_law_381) (fun H locs hS => ?_)
                  refine lv_icmp_eq (tgt := 1079) hx hb dL_law_384 (by decide) (fun c_249 => ?_) (fun c_249 => ?_)
                  · replace h := ifp c_249 h
                    obtain ⟨x3_250, e_251, h⟩ := olt h
                    refine lv_iinc (v := x3_250) (lv' := [(3, .int x3_250), (0, .ref b), (1, .ref (G.1 + 0)), (2, .ref (G.1 + 63))]) hx hb dL_law_1079 hl (k := 3) rfl (by rw [e_251]; rfl) (by decide) rfl (fun ls hl => ?_)
                    refine lv_goto (tgt := 18) hx hb dL_law_1082 (by decide) ?_
                    obtain rfl := Option.some.inj h
                    exact hE _ _ _ hS (lv_sub hl [1, 2, 3, 0] rfl)
                  · replace h := ifn c_249 h
                    obtain rfl := Option.some.inj h
                    exact hE _ _ _ hS (lv_sub hl [] rfl)
                · replace h := ifn c_9 h
                  by_cases c_10 : ((xs x3.toNatClampNeg) &&& 31) = 7
                  · replace h := ifp c_10 h
                    refine r_nI c_10.symm ?_
                    refine lv_tableIn (tgt := 389) (off := 357) hx hb dL_law_32 (by decide) (by decide) (by decide) (by decide) ?_
                    refine lv_aload_n hx hb dL_law_389 rfl (lv_at hl 1 rfl) ?_
                    refine lv_aload_n hx hb dL_law_390 rfl (lv_at hl 0 rfl) ?_
                    refine lv_iload_n hx hb dL_law_391 rfl (lv_at hl 3 rfl) ?_
                    refine lv_iconst (v := 1) hx hb dL_law_392 (by decide) ?_
                    refine lv_iadd hx hb dL_law_393 ?_
                    obtain ⟨b_230, h⟩ := ift h
                    refine va_sld hx hb hXs.1 hXs.2.1 hXs.2.2 hS.2 (inb_in b_230) dL_law_394 ?_
                    refine lv_aload_n hx hb dL_law_395 rfl (lv_at hl 0 rfl) ?_
                    refine lv_iload_n hx hb dL_law_396 rfl (lv_at hl 3 rfl) ?_
                    refine lv_iconst (v := 2) hx hb dL_law_397 (by decide) ?_
                    refine lv_iadd hx hb dL_law_398 ?_
                    obtain ⟨b_231, h⟩ := ift h
                    refine va_sld hx hb hXs.1 hXs.2.1 hXs.2.2 hS.2 (inb_in b_231) dL_law_399 ?_
                    obtain ⟨⟨r_232, M_233⟩, hq_234, h⟩ := ob h
                    try dsimp only at h
                    refine r_thenI hS (r_runV C hS hl.1 cv_L_48 rfl (c_X10_deep l G F (xs (x3 + 1).toNatClampNeg) (xs (x3 + 2).toNatClampNeg) M  _ hq_234) ⟨by decide, by decide⟩ rfl rfl (Nat.le_of_ble_eq_true rfl) ⟨by decide, by decide⟩ dL_law_400) (fun H locs hS => ?_)
                    refine lv_aload_n hx hb dL_law_403 rfl (lv_at hl 2 rfl) ?_
                    refine lv_aload_n hx hb dL_law_404 rfl (lv_at hl 0 rfl) ?_
                    refine lv_iload_n hx hb dL_law_405 rfl (lv_at hl 3 rfl) ?_
                    refine lv_iconst (v := 1) hx hb dL_law_406 (by decide) ?_
                    refine lv_iadd hx hb dL_law_407 ?_
                    refine va_sld hx hb hXs.1 hXs.2.1 hXs.2.2 hS.2 (inb_in b_230) dL_law_408 ?_
                    refine lv_aload_n hx hb dL_law_409 rfl (lv_at hl 0 rfl) ?_
                    refine lv_iload_n hx hb dL_law_410 rfl (lv_at hl 3 rfl) ?_
                    refine lv_iconst (v := 2) hx hb dL_law_411 (by decide) ?_
                    refine lv_iadd hx hb dL_law_412 ?_
                    refine va_sld hx hb hXs.1 hXs.2.1 hXs.2.2 hS.2 (inb_in b_231) dL_law_413 ?_
                    obtain ⟨⟨r_235, M_236⟩, hq_237, h⟩ := ob h
                    try dsimp only at h
                    refine r_thenI hS (r_runV C hS hl.1 cv_L_51 rfl (c_X11_deep l G F (xs (x3 + 1).toNatClampNeg) (xs (x3 + 2).toNatClampNeg) M_233  _ hq_237) ⟨by decide, by decide⟩ rfl rfl (Nat.le_of_ble_eq_true rfl) ⟨by decide, by decide⟩ dL_law_414) (fun H locs hS => ?_)
                    refine lv_icmp_eq (tgt := 1079) hx hb dL_law_417 (by decide) (fun c_238 => ?_) (fun c_238 => ?_)
                    · replace h := ifp c_238 h
                      obtain ⟨x3_239, e_240, h⟩ := olt h
                      refine lv_iinc (v := x3_239) (lv' := [(3, .int x3_239), (0, .ref b), (1, .ref (G.1 + 0)), (2, .ref (G.1 + 63))]) hx hb dL_law_1079 hl (k := 3) rfl (by rw [e_240]; rfl) (by decide) rfl (fun ls hl => ?_)
                      refine lv_goto (tgt := 18) hx hb dL_law_1082 (by decide) ?_
                      obtain rfl := Option.some.inj h
                      exact hE _ _ _ hS (lv_sub hl [1, 2, 3, 0] rfl)
                    · replace h := ifn c_238 h
                      obtain rfl := Option.some.inj h
                      exact hE _ _ _ hS (lv_sub hl [] rfl)
                  · replace h := ifn c_10 h
                    by_cases c_11 : ((xs x3.toNatClampNeg) &&& 31) = 8
                    · replace h := ifp c_11 h
                      refine r_nI c_11.symm ?_
                      refine lv_tableIn (tgt := 422) (off := 390) hx hb dL_law_32 (by decide) (by decide) (by decide) (by decide) ?_
                      refine lv_aload_n hx hb dL_law_422 rfl (lv_at hl 1 rfl) ?_
                      refine lv_aload_n hx hb dL_law_423 rfl (lv_at hl 0 rfl) ?_
                      refine lv_iload_n hx hb dL_law_424 rfl (lv_at hl 3 rfl) ?_
                      refine lv_iconst (v := 1) hx hb dL_law_425 (by decide) ?_
                      refine lv_iadd hx hb dL_law_426 ?_
                      obtain ⟨b_217, h⟩ := ift h
                      refine va_sld hx hb hXs.1 hXs.2.1 hXs.2.2 hS.2 (inb_in b_217) dL_law_427 ?_
                      refine lv_aload_n hx hb dL_law_428 rfl (lv_at hl 0 rfl) ?_
                      refine lv_iload_n hx hb dL_law_429 rfl (lv_at hl 3 rfl) ?_
                      refine lv_iconst (v := 2) hx hb dL_law_430 (by decide) ?_
                      refine lv_iadd hx hb dL_law_431 ?_
                      obtain ⟨b_218, h⟩ := ift h
                      refine va_sld hx hb hXs.1 hXs.2.1 hXs.2.2 hS.2 (inb_in b_218) dL_law_432 ?_
                      refine lv_aload_n hx hb dL_law_433 rfl (lv_at hl 0 rfl) ?_
                      refine lv_iload_n hx hb dL_law_434 rfl (lv_at hl 3 rfl) ?_
                      refine lv_iconst (v := 3) hx hb dL_law_435 (by decide) ?_
                      refine lv_iadd hx hb dL_law_436 ?_
                      obtain ⟨b_219, h⟩ := ift h
                      refine va_sld hx hb hXs.1 hXs.2.1 hXs.2.2 hS.2 (inb_in b_219) dL_law_437 ?_
                      refine lv_aload_n hx hb dL_law_438 rfl (lv_at hl 0 rfl) ?_
                      refine lv_iload_n hx hb dL_law_439 rfl (lv_at hl 3 rfl) ?_
                      refine lv_iconst (v := 4) hx hb dL_law_440 (by decide) ?_
                      refine lv_iadd hx hb dL_law_441 ?_
                      obtain ⟨b_220, h⟩ := ift h
                      refine va_sld hx hb hXs.1 hXs.2.1 hXs.2.2 hS.2 (inb_in b_220) dL_law_442 ?_
                      obtain ⟨⟨r_221, M_222⟩, hq_223, h⟩ := ob h
                      try dsimp only at h
                      refine r_thenI hS (r_runV C hS hl.1 cv_L_52 rfl (c_X10_uses l G F (xs (x3 + 1).toNatClampNeg) (xs (x3 + 2).toNatClampNeg) (xs (x3 + 3).toNatClampNeg) (xs (x3 + 4).toNatClampNeg) M  _ hq_223) ⟨by decide, by decide⟩ rfl rfl (Nat.le_of_ble_eq_true rfl) ⟨by decide, by decide⟩ dL_law_443) (fun H locs hS => ?_)
                      refine lv_aload_n hx hb dL_law_446 rfl (lv_at hl 2 rfl) ?_
                      refine lv_aload_n hx hb dL_law_447 rfl (lv_at hl 0 rfl) ?_
                      refine lv_iload_n hx hb dL_law_448 rfl (lv_at hl 3 rfl) ?_
                      refine lv_iconst (v := 1) hx hb dL_law_449 (by decide) ?_
                      refine lv_iadd hx hb dL_law_450 ?_
                      refine va_sld hx hb hXs.1 hXs.2.1 hXs.2.2 hS.2 (inb_in b_217) dL_law_451 ?_
                      refine lv_aload_n hx hb dL_law_452 rfl (lv_at hl 0 rfl) ?_
                      refine lv_iload_n hx hb dL_law_453 rfl (lv_at hl 3 rfl) ?_
                      refine lv_iconst (v := 2) hx hb dL_law_454 (by decide) ?_
                      refine lv_iadd hx hb dL_law_455 ?_
                      refine va_sld hx hb hXs.1 hXs.2.1 hXs.2.2 hS.2 (inb_in b_218) dL_law_456 ?_
                      refine lv_aload_n hx hb dL_law_457 rfl (lv_at hl 0 rfl) ?_
                      refine lv_iload_n hx hb dL_law_458 rfl (lv_at hl 3 rfl) ?_
                      refine lv_iconst (v := 3) hx hb dL_law_459 (by decide) ?_
                      refine lv_iadd hx hb dL_law_460 ?_
                      refine va_sld hx hb hXs.1 hXs.2.1 hXs.2.2 hS.2 (inb_in b_219) dL_law_461 ?_
                      refine lv_aload_n hx hb dL_law_462 rfl (lv_at hl 0 rfl) ?_
                      refine lv_iload_n hx hb dL_law_463 rfl (lv_at hl 3 rfl) ?_
                      refine lv_iconst (v := 4) hx hb dL_law_464 (by decide) ?_
                      refine lv_iadd hx hb dL_law_465 ?_
                      refine va_sld hx hb hXs.1 hXs.2.1 hXs.2.2 hS.2 (inb_in b_220) dL_law_466 ?_
                      obtain ⟨⟨r_224, M_225⟩, hq_226, h⟩ := ob h
                      try dsimp only at h
                      refine r_thenI hS (r_runV C hS hl.1 cv_L_56 rfl (c_X11_uses l G F (xs (x3 + 1).toNatClampNeg) (xs (x3 + 2).toNatClampNeg) (xs (x3 + 3).toNatClampNeg) (xs (x3 + 4).toNatClampNeg) M_222  _ hq_226) ⟨by decide, by decide⟩ rfl rfl (Nat.le_of_ble_eq_true rfl) ⟨by decide, by decide⟩ dL_law_467) (fun H locs hS => ?_)
                      refine lv_icmp_eq (tgt := 1079) hx hb dL_law_470 (by decide) (fun c_227 => ?_) (fun c_227 => ?_)
                      · replace h := ifp c_227 h
                        obtain ⟨x3_228, e_229, h⟩ := olt h
                        refine lv_iinc (v := x3_228) (lv' := [(3, .int x3_228), (0, .ref b), (1, .ref (G.1 + 0)), (2, .ref (G.1 + 63))]) hx hb dL_law_1079 hl (k := 3) rfl (by rw [e_229]; rfl) (by decide) rfl (fun ls hl => ?_)
                        refine lv_goto (tgt := 18) hx hb dL_law_1082 (by decide) ?_
                        obtain rfl := Option.some.inj h
                        exact hE _ _ _ hS (lv_sub hl [1, 2, 3, 0] rfl)
                      · replace h := ifn c_227 h
                        obtain rfl := Option.some.inj h
                        exact hE _ _ _ hS (lv_sub hl [] rfl)
                    · replace h := ifn c_11 h
                      by_cases c_12 : ((xs x3.toNatClampNeg) &&& 31) = 9
                      · replace h := ifp c_12 h
                        refine r_nI c_12.symm ?_
                        refine lv_tableIn (tgt := 475) (off := 443) hx hb dL_law_32 (by decide) (by decide) (by decide) (by decide) ?_
                        refine lv_aload_n hx hb dL_law_475 rfl (lv_at hl 1 rfl) ?_
                        refine lv_aload_n hx hb dL_law_476 rfl (lv_at hl 0 rfl) ?_
                        refine lv_iload_n hx hb dL_law_477 rfl (lv_at hl 3 rfl) ?_
                        refine lv_iconst (v := 1) hx hb dL_law_478 (by decide) ?_
                        refine lv_iadd hx hb dL_law_479 ?_
                        obtain ⟨b_206, h⟩ := ift h
                        refine va_sld hx hb hXs.1 hXs.2.1 hXs.2.2 hS.2 (inb_in b_206) dL_law_480 ?_
                        refine lv_aload_n hx hb dL_law_481 rfl (lv_at hl 0 rfl) ?_
                        refine lv_iload_n hx hb dL_law_482 rfl (lv_at hl 3 rfl) ?_
                        refine lv_iconst (v := 2) hx hb dL_law_483 (by decide) ?_
                        refine lv_iadd hx hb dL_law_484 ?_
                        obtain ⟨b_207, h⟩ := ift h
                        refine va_sld hx hb hXs.1 hXs.2.1 hXs.2.2 hS.2 (inb_in b_207) dL_law_485 ?_
                        obtain ⟨⟨r_208, M_209⟩, hq_210, h⟩ := ob h
                        try dsimp only at h
                        refine r_thenI hS (r_runV C hS hl.1 cv_L_57 rfl (c_X10_first l G F (xs (x3 + 1).toNatClampNeg) (xs (x3 + 2).toNatClampNeg) M  _ hq_210) ⟨by decide, by decide⟩ rfl rfl (Nat.le_of_ble_eq_true rfl) ⟨by decide, by decide⟩ dL_law_486) (fun H locs hS => ?_)
                        refine lv_aload_n hx hb dL_law_489 rfl (lv_at hl 2 rfl) ?_
                        refine lv_aload_n hx hb dL_law_490 rfl (lv_at hl 0 rfl) ?_
                        refine lv_iload_n hx hb dL_law_491 rfl (lv_at hl 3 rfl) ?_
                        refine lv_iconst (v := 1) hx hb dL_law_492 (by decide) ?_
                        refine lv_iadd hx hb dL_law_493 ?_
                        refine va_sld hx hb hXs.1 hXs.2.1 hXs.2.2 hS.2 (inb_in b_206) dL_law_494 ?_
                        refine lv_aload_n hx hb dL_law_495 rfl (lv_at hl 0 rfl) ?_
                        refine lv_iload_n hx hb dL_law_496 rfl (lv_at hl 3 rfl) ?_
                        refine lv_iconst (v := 2) hx hb dL_law_497 (by decide) ?_
                        refine lv_iadd hx hb dL_law_498 ?_
                        refine va_sld hx hb hXs.1 hXs.2.1 hXs.2.2 hS.2 (inb_in b_207) dL_law_499 ?_
                        obtain ⟨⟨r_211, M_212⟩, hq_213, h⟩ := ob h
                        try dsimp only at h
                        refine r_thenI hS (r_runV C hS hl.1 cv_L_60 rfl (c_X11_first l G F (xs (x3 + 1).toNatClampNeg) (xs (x3 + 2).toNatClampNeg) M_209  _ hq_213) ⟨by decide, by decide⟩ rfl rfl (Nat.le_of_ble_eq_true rfl) ⟨by decide, by decide⟩ dL_law_500) (fun H locs hS => ?_)
                        refine lv_icmp_eq (tgt := 1079) hx hb dL_law_503 (by decide) (fun c_214 => ?_) (fun c_214 => ?_)
                        · replace h := ifp c_214 h
                          obtain ⟨x3_215, e_216, h⟩ := olt h
                          refine lv_iinc (v := x3_215) (lv' := [(3, .int x3_215), (0, .ref b), (1, .ref (G.1 + 0)), (2, .ref (G.1 + 63))]) hx hb dL_law_1079 hl (k := 3) rfl (by rw [e_216]; rfl) (by decide) rfl (fun ls hl => ?_)
                          refine lv_goto (tgt := 18) hx hb dL_law_1082 (by decide) ?_
                          obtain rfl := Option.some.inj h
                          exact hE _ _ _ hS (lv_sub hl [1, 2, 3, 0] rfl)
                        · replace h := ifn c_214 h
                          obtain rfl := Option.some.inj h
                          exact hE _ _ _ hS (lv_sub hl [] rfl)
                      · replace h := ifn c_12 h
                        by_cases c_13 : ((xs x3.toNatClampNeg) &&& 31) = 10
                        · replace h := ifp c_13 h
                          refine r_nI c_13.symm ?_
                          refine lv_tableIn (tgt := 508) (off := 476) hx hb dL_law_32 (by decide) (by decide) (by decide) (by decide) ?_
                          refine lv_aload_n hx hb dL_law_508 rfl (lv_at hl 1 rfl) ?_
                          refine lv_aload_n hx hb dL_law_509 rfl (lv_at hl 0 rfl) ?_
                          refine lv_iload_n hx hb dL_law_510 rfl (lv_at hl 3 rfl) ?_
                          refine lv_iconst (v := 1) hx hb dL_law_511 (by decide) ?_
                          refine lv_iadd hx hb dL_law_512 ?_
                          obtain ⟨b_194, h⟩ := ift h
                          refine va_sld hx hb hXs.1 hXs.2.1 hXs.2.2 hS.2 (inb_in b_194) dL_law_513 ?_
                          refine lv_aload_n hx hb dL_law_514 rfl (lv_at hl 0 rfl) ?_
                          refine lv_iload_n hx hb dL_law_515 rfl (lv_at hl 3 rfl) ?_
                          refine lv_iconst (v := 2) hx hb dL_law_516 (by decide) ?_
                          refine lv_iadd hx hb dL_law_517 ?_
                          obtain ⟨b_195, h⟩ := ift h
                          refine va_sld hx hb hXs.1 hXs.2.1 hXs.2.2 hS.2 (inb_in b_195) dL_law_518 ?_
                          refine lv_aload_n hx hb dL_law_519 rfl (lv_at hl 0 rfl) ?_
                          refine lv_iload_n hx hb dL_law_520 rfl (lv_at hl 3 rfl) ?_
                          refine lv_iconst (v := 3) hx hb dL_law_521 (by decide) ?_
                          refine lv_iadd hx hb dL_law_522 ?_
                          obtain ⟨b_196, h⟩ := ift h
                          refine va_sld hx hb hXs.1 hXs.2.1 hXs.2.2 hS.2 (inb_in b_196) dL_law_523 ?_
                          obtain ⟨⟨r_197, M_198⟩, hq_199, h⟩ := ob h
                          try dsimp only at h
                          refine r_thenI hS (r_runV C hS hl.1 cv_L_61 rfl (c_X10_song l G F (xs (x3 + 1).toNatClampNeg) (xs (x3 + 2).toNatClampNeg) (xs (x3 + 3).toNatClampNeg) M  _ hq_199) ⟨by decide, by decide⟩ rfl rfl (Nat.le_of_ble_eq_true rfl) ⟨by decide, by decide⟩ dL_law_524) (fun H locs hS => ?_)
                          refine lv_aload_n hx hb dL_law_527 rfl (lv_at hl 2 rfl) ?_
                          refine lv_aload_n hx hb dL_law_528 rfl (lv_at hl 0 rfl) ?_
                          refine lv_iload_n hx hb dL_law_529 rfl (lv_at hl 3 rfl) ?_
                          refine lv_iconst (v := 1) hx hb dL_law_530 (by decide) ?_
                          refine lv_iadd hx hb dL_law_531 ?_
                          refine va_sld hx hb hXs.1 hXs.2.1 hXs.2.2 hS.2 (inb_in b_194) dL_law_532 ?_
                          refine lv_aload_n hx hb dL_law_533 rfl (lv_at hl 0 rfl) ?_
                          refine lv_iload_n hx hb dL_law_534 rfl (lv_at hl 3 rfl) ?_
                          refine lv_iconst (v := 2) hx hb dL_law_535 (by decide) ?_
                          refine lv_iadd hx hb dL_law_536 ?_
                          refine va_sld hx hb hXs.1 hXs.2.1 hXs.2.2 hS.2 (inb_in b_195) dL_law_537 ?_
                          refine lv_aload_n hx hb dL_law_538 rfl (lv_at hl 0 rfl) ?_
                          refine lv_iload_n hx hb dL_law_539 rfl (lv_at hl 3 rfl) ?_
                          refine lv_iconst (v := 3) hx hb dL_law_540 (by decide) ?_
                          refine lv_iadd hx hb dL_law_541 ?_
                          refine va_sld hx hb hXs.1 hXs.2.1 hXs.2.2 hS.2 (inb_in b_196) dL_law_542 ?_
                          obtain ⟨⟨r_200, M_201⟩, hq_202, h⟩ := ob h
                          try dsimp only at h
                          refine r_thenI hS (r_runV C hS hl.1 cv_L_64 rfl (c_X11_song l G F (xs (x3 + 1).toNatClampNeg) (xs (x3 + 2).toNatClampNeg) (xs (x3 + 3).toNatClampNeg) M_198  _ hq_202) ⟨by decide, by decide⟩ rfl rfl (Nat.le_of_ble_eq_true rfl) ⟨by decide, by decide⟩ dL_law_543) (fun H locs hS => ?_)
                          refine lv_icmp_eq (tgt := 1079) hx hb dL_law_546 (by decide) (fun c_203 => ?_) (fun c_203 => ?_)
                          · replace h := ifp c_203 h
                            obtain ⟨x3_204, e_205, h⟩ := olt h
                            refine lv_iinc (v := x3_204) (lv' := [(3, .int x3_204), (0, .ref b), (1, .ref (G.1 + 0)), (2, .ref (G.1 + 63))]) hx hb dL_law_1079 hl (k := 3) rfl (by rw [e_205]; rfl) (by decide) rfl (fun ls hl => ?_)
                            refine lv_goto (tgt := 18) hx hb dL_law_1082 (by decide) ?_
                            obtain rfl := Option.some.inj h
                            exact hE _ _ _ hS (lv_sub hl [1, 2, 3, 0] rfl)
                          · replace h := ifn c_203 h
                            obtain rfl := Option.some.inj h
                            exact hE _ _ _ hS (lv_sub hl [] rfl)
                        · replace h := ifn c_13 h
                          by_cases c_14 : ((xs x3.toNatClampNeg) &&& 31) = 11
                          · replace h := ifp c_14 h
                            refine r_nI c_14.symm ?_
                            refine lv_tableIn (tgt := 551) (off := 519) hx hb dL_law_32 (by decide) (by decide) (by decide) (by decide) ?_
                            refine lv_aload_n hx hb dL_law_551 rfl (lv_at hl 1 rfl) ?_
                            refine lv_aload_n hx hb dL_law_552 rfl (lv_at hl 0 rfl) ?_
                            refine lv_iload_n hx hb dL_law_553 rfl (lv_at hl 3 rfl) ?_
                            refine lv_iconst (v := 1) hx hb dL_law_554 (by decide) ?_
                            refine lv_iadd hx hb dL_law_555 ?_
                            obtain ⟨b_183, h⟩ := ift h
                            refine va_sld hx hb hXs.1 hXs.2.1 hXs.2.2 hS.2 (inb_in b_183) dL_law_556 ?_
                            refine lv_aload_n hx hb dL_law_557 rfl (lv_at hl 0 rfl) ?_
                            refine lv_iload_n hx hb dL_law_558 rfl (lv_at hl 3 rfl) ?_
                            refine lv_iconst (v := 2) hx hb dL_law_559 (by decide) ?_
                            refine lv_iadd hx hb dL_law_560 ?_
                            obtain ⟨b_184, h⟩ := ift h
                            refine va_sld hx hb hXs.1 hXs.2.1 hXs.2.2 hS.2 (inb_in b_184) dL_law_561 ?_
                            obtain ⟨⟨r_185, M_186⟩, hq_187, h⟩ := ob h
                            try dsimp only at h
                            refine r_thenI hS (r_runV C hS hl.1 cv_L_65 rfl (c_X10_order l G F (xs (x3 + 1).toNatClampNeg) (xs (x3 + 2).toNatClampNeg) M  _ hq_187) ⟨by decide, by decide⟩ rfl rfl (Nat.le_of_ble_eq_true rfl) ⟨by decide, by decide⟩ dL_law_562) (fun H locs hS => ?_)
                            refine lv_aload_n hx hb dL_law_565 rfl (lv_at hl 2 rfl) ?_
                            refine lv_aload_n hx hb dL_law_566 rfl (lv_at hl 0 rfl) ?_
                            refine lv_iload_n hx hb dL_law_567 rfl (lv_at hl 3 rfl) ?_
                            refine lv_iconst (v := 1) hx hb dL_law_568 (by decide) ?_
                            refine lv_iadd hx hb dL_law_569 ?_
                            refine va_sld hx hb hXs.1 hXs.2.1 hXs.2.2 hS.2 (inb_in b_183) dL_law_570 ?_
                            refine lv_aload_n hx hb dL_law_571 rfl (lv_at hl 0 rfl) ?_
                            refine lv_iload_n hx hb dL_law_572 rfl (lv_at hl 3 rfl) ?_
                            refine lv_iconst (v := 2) hx hb dL_law_573 (by decide) ?_
                            refine lv_iadd hx hb dL_law_574 ?_
                            refine va_sld hx hb hXs.1 hXs.2.1 hXs.2.2 hS.2 (inb_in b_184) dL_law_575 ?_
                            obtain ⟨⟨r_188, M_189⟩, hq_190, h⟩ := ob h
                            try dsimp only at h
                            refine r_thenI hS (r_runV C hS hl.1 cv_L_68 rfl (c_X11_order l G F (xs (x3 + 1).toNatClampNeg) (xs (x3 + 2).toNatClampNeg) M_186  _ hq_190) ⟨by decide, by decide⟩ rfl rfl (Nat.le_of_ble_eq_true rfl) ⟨by decide, by decide⟩ dL_law_576) (fun H locs hS => ?_)
                            refine lv_icmp_eq (tgt := 1079) hx hb dL_law_579 (by decide) (fun c_191 => ?_) (fun c_191 => ?_)
                            · replace h := ifp c_191 h
                              obtain ⟨x3_192, e_193, h⟩ := olt h
                              refine lv_iinc (v := x3_192) (lv' := [(3, .int x3_192), (0, .ref b), (1, .ref (G.1 + 0)), (2, .ref (G.1 + 63))]) hx hb dL_law_1079 hl (k := 3) rfl (by rw [e_193]; rfl) (by decide) rfl (fun ls hl => ?_)
                              refine lv_goto (tgt := 18) hx hb dL_law_1082 (by decide) ?_
                              obtain rfl := Option.some.inj h
                              exact hE _ _ _ hS (lv_sub hl [1, 2, 3, 0] rfl)
                            · replace h := ifn c_191 h
                              obtain rfl := Option.some.inj h
                              exact hE _ _ _ hS (lv_sub hl [] rfl)
                          · replace h := ifn c_14 h
                            by_cases c_15 : ((xs x3.toNatClampNeg) &&& 31) = 12
                            · replace h := ifp c_15 h
                              refine r_nI c_15.symm ?_
                              refine lv_tableIn (tgt := 584) (off := 552) hx hb dL_law_32 (by decide) (by decide) (by decide) (by decide) ?_
                              refine lv_aload_n hx hb dL_law_584 rfl (lv_at hl 1 rfl) ?_
                              refine lv_aload_n hx hb dL_law_585 rfl (lv_at hl 0 rfl) ?_
                              refine lv_iload_n hx hb dL_law_586 rfl (lv_at hl 3 rfl) ?_
                              refine lv_iconst (v := 1) hx hb dL_law_587 (by decide) ?_
                              refine lv_iadd hx hb dL_law_588 ?_
                              obtain ⟨b_172, h⟩ := ift h
                              refine va_sld hx hb hXs.1 hXs.2.1 hXs.2.2 hS.2 (inb_in b_172) dL_law_589 ?_
                              refine lv_aload_n hx hb dL_law_590 rfl (lv_at hl 0 rfl) ?_
                              refine lv_iload_n hx hb dL_law_591 rfl (lv_at hl 3 rfl) ?_
                              refine lv_iconst (v := 2) hx hb dL_law_592 (by decide) ?_
                              refine lv_iadd hx hb dL_law_593 ?_
                              obtain ⟨b_173, h⟩ := ift h
                              refine va_sld hx hb hXs.1 hXs.2.1 hXs.2.2 hS.2 (inb_in b_173) dL_law_594 ?_
                              obtain ⟨⟨r_174, M_175⟩, hq_176, h⟩ := ob h
                              try dsimp only at h
                              refine r_thenI hS (r_runV C hS hl.1 cv_L_69 rfl (c_X10_place l G F (xs (x3 + 1).toNatClampNeg) (xs (x3 + 2).toNatClampNeg) M  _ hq_176) ⟨by decide, by decide⟩ rfl rfl (Nat.le_of_ble_eq_true rfl) ⟨by decide, by decide⟩ dL_law_595) (fun H locs hS => ?_)
                              refine lv_aload_n hx hb dL_law_598 rfl (lv_at hl 2 rfl) ?_
                              refine lv_aload_n hx hb dL_law_599 rfl (lv_at hl 0 rfl) ?_
                              refine lv_iload_n hx hb dL_law_600 rfl (lv_at hl 3 rfl) ?_
                              refine lv_iconst (v := 1) hx hb dL_law_601 (by decide) ?_
                              refine lv_iadd hx hb dL_law_602 ?_
                              refine va_sld hx hb hXs.1 hXs.2.1 hXs.2.2 hS.2 (inb_in b_172) dL_law_603 ?_
                              refine lv_aload_n hx hb dL_law_604 rfl (lv_at hl 0 rfl) ?_
                              refine lv_iload_n hx hb dL_law_605 rfl (lv_at hl 3 rfl) ?_
                              refine lv_iconst (v := 2) hx hb dL_law_606 (by decide) ?_
                              refine lv_iadd hx hb dL_law_607 ?_
                              refine va_sld hx hb hXs.1 hXs.2.1 hXs.2.2 hS.2 (inb_in b_173) dL_law_608 ?_
                              obtain ⟨⟨r_177, M_178⟩, hq_179, h⟩ := ob h
                              try dsimp only at h
                              refine r_thenI hS (r_runV C hS hl.1 cv_L_72 rfl (c_X11_place l G F (xs (x3 + 1).toNatClampNeg) (xs (x3 + 2).toNatClampNeg) M_175  _ hq_179) ⟨by decide, by decide⟩ rfl rfl (Nat.le_of_ble_eq_true rfl) ⟨by decide, by decide⟩ dL_law_609) (fun H locs hS => ?_)
                              refine lv_icmp_eq (tgt := 1079) hx hb dL_law_612 (by decide) (fun c_180 => ?_) (fun c_180 => ?_)
                              · replace h := ifp c_180 h
                                obtain ⟨x3_181, e_182, h⟩ := olt h
                                refine lv_iinc (v := x3_181) (lv' := [(3, .int x3_181), (0, .ref b), (1, .ref (G.1 + 0)), (2, .ref (G.1 + 63))]) hx hb dL_law_1079 hl (k := 3) rfl (by rw [e_182]; rfl) (by decide) rfl (fun ls hl => ?_)
                                refine lv_goto (tgt := 18) hx hb dL_law_1082 (by decide) ?_
                                obtain rfl := Option.some.inj h
                                exact hE _ _ _ hS (lv_sub hl [1, 2, 3, 0] rfl)
                              · replace h := ifn c_180 h
                                obtain rfl := Option.some.inj h
                                exact hE _ _ _ hS (lv_sub hl [] rfl)
                            · replace h := ifn c_15 h
                              by_cases c_16 : ((xs x3.toNatClampNeg) &&& 31) = 13
                              · replace h := ifp c_16 h
                                refine r_nI c_16.symm ?_
                                refine lv_tableIn (tgt := 617) (off := 585) hx hb dL_law_32 (by decide) (by decide) (by decide) (by decide) ?_
                                refine lv_aload_n hx hb dL_law_617 rfl (lv_at hl 1 rfl) ?_
                                refine lv_aload_n hx hb dL_law_618 rfl (lv_at hl 0 rfl) ?_
                                refine lv_iload_n hx hb dL_law_619 rfl (lv_at hl 3 rfl) ?_
                                refine lv_iconst (v := 1) hx hb dL_law_620 (by decide) ?_
                                refine lv_iadd hx hb dL_law_621 ?_
                                obtain ⟨b_161, h⟩ := ift h
                                refine va_sld hx hb hXs.1 hXs.2.1 hXs.2.2 hS.2 (inb_in b_161) dL_law_622 ?_
                                refine lv_aload_n hx hb dL_law_623 rfl (lv_at hl 0 rfl) ?_
                                refine lv_iload_n hx hb dL_law_624 rfl (lv_at hl 3 rfl) ?_
                                refine lv_iconst (v := 2) hx hb dL_law_625 (by decide) ?_
                                refine lv_iadd hx hb dL_law_626 ?_
                                obtain ⟨b_162, h⟩ := ift h
                                refine va_sld hx hb hXs.1 hXs.2.1 hXs.2.2 hS.2 (inb_in b_162) dL_law_627 ?_
                                obtain ⟨⟨r_163, M_164⟩, hq_165, h⟩ := ob h
                                try dsimp only at h
                                refine r_thenI hS (r_runV C hS hl.1 cv_L_73 rfl (c_X10_twins l G F (xs (x3 + 1).toNatClampNeg) (xs (x3 + 2).toNatClampNeg) M  _ hq_165) ⟨by decide, by decide⟩ rfl rfl (Nat.le_of_ble_eq_true rfl) ⟨by decide, by decide⟩ dL_law_628) (fun H locs hS => ?_)
                                refine lv_aload_n hx hb dL_law_631 rfl (lv_at hl 2 rfl) ?_
                                refine lv_aload_n hx hb dL_law_632 rfl (lv_at hl 0 rfl) ?_
                                refine lv_iload_n hx hb dL_law_633 rfl (lv_at hl 3 rfl) ?_
                                refine lv_iconst (v := 1) hx hb dL_law_634 (by decide) ?_
                                refine lv_iadd hx hb dL_law_635 ?_
                                refine va_sld hx hb hXs.1 hXs.2.1 hXs.2.2 hS.2 (inb_in b_161) dL_law_636 ?_
                                refine lv_aload_n hx hb dL_law_637 rfl (lv_at hl 0 rfl) ?_
                                refine lv_iload_n hx hb dL_law_638 rfl (lv_at hl 3 rfl) ?_
                                refine lv_iconst (v := 2) hx hb dL_law_639 (by decide) ?_
                                refine lv_iadd hx hb dL_law_640 ?_
                                refine va_sld hx hb hXs.1 hXs.2.1 hXs.2.2 hS.2 (inb_in b_162) dL_law_641 ?_
                                obtain ⟨⟨r_166, M_167⟩, hq_168, h⟩ := ob h
                                try dsimp only at h
                                refine r_thenI hS (r_runV C hS hl.1 cv_L_76 rfl (c_X11_twins l G F (xs (x3 + 1).toNatClampNeg) (xs (x3 + 2).toNatClampNeg) M_164  _ hq_168) ⟨by decide, by decide⟩ rfl rfl (Nat.le_of_ble_eq_true rfl) ⟨by decide, by decide⟩ dL_law_642) (fun H locs hS => ?_)
                                refine lv_icmp_eq (tgt := 1079) hx hb dL_law_645 (by decide) (fun c_169 => ?_) (fun c_169 => ?_)
                                · replace h := ifp c_169 h
                                  obtain ⟨x3_170, e_171, h⟩ := olt h
                                  refine lv_iinc (v := x3_170) (lv' := [(3, .int x3_170), (0, .ref b), (1, .ref (G.1 + 0)), (2, .ref (G.1 + 63))]) hx hb dL_law_1079 hl (k := 3) rfl (by rw [e_171]; rfl) (by decide) rfl (fun ls hl => ?_)
                                  refine lv_goto (tgt := 18) hx hb dL_law_1082 (by decide) ?_
                                  obtain rfl := Option.some.inj h
                                  exact hE _ _ _ hS (lv_sub hl [1, 2, 3, 0] rfl)
                                · replace h := ifn c_169 h
                                  obtain rfl := Option.some.inj h
                                  exact hE _ _ _ hS (lv_sub hl [] rfl)
                              · replace h := ifn c_16 h
                                by_cases c_17 : ((xs x3.toNatClampNeg) &&& 31) = 14
                                · replace h := ifp c_17 h
                                  refine r_nI c_17.symm ?_
                                  refine lv_tableIn (tgt := 650) (off := 618) hx hb dL_law_32 (by decide) (by decide) (by decide) (by decide) ?_
                                  refine lv_aload_n hx hb dL_law_650 rfl (lv_at hl 1 rfl) ?_
                                  refine lv_aload_n hx hb dL_law_651 rfl (lv_at hl 0 rfl) ?_
                                  refine lv_iload_n hx hb dL_law_652 rfl (lv_at hl 3 rfl) ?_
                                  refine lv_iconst (v := 1) hx hb dL_law_653 (by decide) ?_
                                  refine lv_iadd hx hb dL_law_654 ?_
                                  obtain ⟨b_151, h⟩ := ift h
                                  refine va_sld hx hb hXs.1 hXs.2.1 hXs.2.2 hS.2 (inb_in b_151) dL_law_655 ?_
                                  obtain ⟨⟨r_152, M_153⟩, hq_154, h⟩ := ob h
                                  try dsimp only at h
                                  refine r_thenI hS (r_runV C hS hl.1 cv_L_77 rfl (c_X10_write l G F (xs (x3 + 1).toNatClampNeg) M  _ hq_154) ⟨by decide, by decide⟩ rfl rfl (Nat.le_of_ble_eq_true rfl) ⟨by decide, by decide⟩ dL_law_656) (fun H locs hS => ?_)
                                  refine lv_aload_n hx hb dL_law_659 rfl (lv_at hl 2 rfl) ?_
                                  refine lv_aload_n hx hb dL_law_660 rfl (lv_at hl 0 rfl) ?_
                                  refine lv_iload_n hx hb dL_law_661 rfl (lv_at hl 3 rfl) ?_
                                  refine lv_iconst (v := 1) hx hb dL_law_662 (by decide) ?_
                                  refine lv_iadd hx hb dL_law_663 ?_
                                  refine va_sld hx hb hXs.1 hXs.2.1 hXs.2.2 hS.2 (inb_in b_151) dL_law_664 ?_
                                  obtain ⟨⟨r_155, M_156⟩, hq_157, h⟩ := ob h
                                  try dsimp only at h
                                  refine r_thenI hS (r_runV C hS hl.1 cv_L_80 rfl (c_X11_write l G F (xs (x3 + 1).toNatClampNeg) M_153  _ hq_157) ⟨by decide, by decide⟩ rfl rfl (Nat.le_of_ble_eq_true rfl) ⟨by decide, by decide⟩ dL_law_665) (fun H locs hS => ?_)
                                  refine lv_icmp_eq (tgt := 1079) hx hb dL_law_668 (by decide) (fun c_158 => ?_) (fun c_158 => ?_)
                                  · replace h := ifp c_158 h
                                    obtain ⟨x3_159, e_160, h⟩ := olt h
                                    refine lv_iinc (v := x3_159) (lv' := [(3, .int x3_159), (0, .ref b), (1, .ref (G.1 + 0)), (2, .ref (G.1 + 63))]) hx hb dL_law_1079 hl (k := 3) rfl (by rw [e_160]; rfl) (by decide) rfl (fun ls hl => ?_)
                                    refine lv_goto (tgt := 18) hx hb dL_law_1082 (by decide) ?_
                                    obtain rfl := Option.some.inj h
                                    exact hE _ _ _ hS (lv_sub hl [1, 2, 3, 0] rfl)
                                  · replace h := ifn c_158 h
                                    obtain rfl := Option.some.inj h
                                    exact hE _ _ _ hS (lv_sub hl [] rfl)
                                · replace h := ifn c_17 h
                                  by_cases c_18 : ((xs x3.toNatClampNeg) &&& 31) = 15
                                  · replace h := ifp c_18 h
                                    refine r_nI c_18.symm ?_
                                    refine lv_tableIn (tgt := 673) (off := 641) hx hb dL_law_32 (by decide) (by decide) (by decide) (by decide) ?_
                                    refine lv_aload_n hx hb dL_law_673 rfl (lv_at hl 1 rfl) ?_
                                    obtain ⟨⟨r_142, M_143⟩, hq_144, h⟩ := ob h
                                    try dsimp only at h
                                    refine r_thenI hS (r_runV C hS hl.1 cv_L_81 rfl (c_X10_clear l G F  M  _ hq_144) ⟨by decide, by decide⟩ rfl rfl (Nat.le_of_ble_eq_true rfl) ⟨by decide, by decide⟩ dL_law_674) (fun H locs hS => ?_)
                                    refine lv_aload_n hx hb dL_law_677 rfl (lv_at hl 2 rfl) ?_
                                    obtain ⟨⟨r_145, M_146⟩, hq_147, h⟩ := ob h
                                    try dsimp only at h
                                    refine r_thenI hS (r_runV C hS hl.1 cv_L_84 rfl (c_X11_clear l G F  M_143  _ hq_147) ⟨by decide, by decide⟩ rfl rfl (Nat.le_of_ble_eq_true rfl) ⟨by decide, by decide⟩ dL_law_678) (fun H locs hS => ?_)
                                    refine lv_icmp_eq (tgt := 1079) hx hb dL_law_681 (by decide) (fun c_148 => ?_) (fun c_148 => ?_)
                                    · replace h := ifp c_148 h
                                      obtain ⟨x3_149, e_150, h⟩ := olt h
                                      refine lv_iinc (v := x3_149) (lv' := [(3, .int x3_149), (0, .ref b), (1, .ref (G.1 + 0)), (2, .ref (G.1 + 63))]) hx hb dL_law_1079 hl (k := 3) rfl (by rw [e_150]; rfl) (by decide) rfl (fun ls hl => ?_)
                                      refine lv_goto (tgt := 18) hx hb dL_law_1082 (by decide) ?_
                                      obtain rfl := Option.some.inj h
                                      exact hE _ _ _ hS (lv_sub hl [1, 2, 3, 0] rfl)
                                    · replace h := ifn c_148 h
                                      obtain rfl := Option.some.inj h
                                      exact hE _ _ _ hS (lv_sub hl [] rfl)
                                  · replace h := ifn c_18 h
                                    by_cases c_19 : ((xs x3.toNatClampNeg) &&& 31) = 16
                                    · replace h := ifp c_19 h
                                      refine r_nI c_19.symm ?_
                                      refine lv_tableIn (tgt := 686) (off := 654) hx hb dL_law_32 (by decide) (by decide) (by decide) (by decide) ?_
                                      refine lv_aload_n hx hb dL_law_686 rfl (lv_at hl 1 rfl) ?_
                                      refine lv_aload_n hx hb dL_law_687 rfl (lv_at hl 0 rfl) ?_
                                      refine lv_iload_n hx hb dL_law_688 rfl (lv_at hl 3 rfl) ?_
                                      refine lv_iconst (v := 1) hx hb dL_law_689 (by decide) ?_
                                      refine lv_iadd hx hb dL_law_690 ?_
                                      obtain ⟨b_125, h⟩ := ift h
                                      refine va_sld hx hb hXs.1 hXs.2.1 hXs.2.2 hS.2 (inb_in b_125) dL_law_691 ?_
                                      refine lv_aload_n hx hb dL_law_692 rfl (lv_at hl 0 rfl) ?_
                                      refine lv_iload_n hx hb dL_law_693 rfl (lv_at hl 3 rfl) ?_
                                      refine lv_iconst (v := 2) hx hb dL_law_694 (by decide) ?_
                                      refine lv_iadd hx hb dL_law_695 ?_
                                      obtain ⟨b_126, h⟩ := ift h
                                      refine va_sld hx hb hXs.1 hXs.2.1 hXs.2.2 hS.2 (inb_in b_126) dL_law_696 ?_
                                      refine lv_if_eq (tgt := 704) hx hb dL_law_697 (by decide) (fun c_127 => ?_) (fun c_127 => ?_)
                                      · replace h := ifp c_127 h
                                        refine lv_iconst (v := 0) hx hb dL_law_704 (by decide) ?_
                                        exact w_Law_law_J705 C b L xs hXs F x3 (xs (x3 + 1).toNatClampNeg) 0 M  q h hE _ _ _ hS (lv_sub hl [0, 1, 2, 3] rfl)
                                      · replace h := ifn c_127 h
                                        refine lv_iconst (v := 1) hx hb dL_law_700 (by decide) ?_
                                        refine lv_goto (tgt := 705) hx hb dL_law_701 (by decide) ?_
                                        exact w_Law_law_J705 C b L xs hXs F x3 (xs (x3 + 1).toNatClampNeg) 1 M  q h hE _ _ _ hS (lv_sub hl [0, 1, 2, 3] rfl)
                                    · replace h := ifn c_19 h
                                      by_cases c_20 : ((xs x3.toNatClampNeg) &&& 31) = 17
                                      · replace h := ifp c_20 h
                                        refine r_nI c_20.symm ?_
                                        refine lv_tableIn (tgt := 745) (off := 713) hx hb dL_law_32 (by decide) (by decide) (by decide) (by decide) ?_
                                        refine lv_aload_n hx hb dL_law_745 rfl (lv_at hl 1 rfl) ?_
                                        refine lv_aload_n hx hb dL_law_746 rfl (lv_at hl 0 rfl) ?_
                                        refine lv_iload_n hx hb dL_law_747 rfl (lv_at hl 3 rfl) ?_
                                        refine lv_iconst (v := 1) hx hb dL_law_748 (by decide) ?_
                                        refine lv_iadd hx hb dL_law_749 ?_
                                        obtain ⟨b_114, h⟩ := ift h
                                        refine va_sld hx hb hXs.1 hXs.2.1 hXs.2.2 hS.2 (inb_in b_114) dL_law_750 ?_
                                        refine lv_aload_n hx hb dL_law_751 rfl (lv_at hl 0 rfl) ?_
                                        refine lv_iload_n hx hb dL_law_752 rfl (lv_at hl 3 rfl) ?_
                                        refine lv_iconst (v := 2) hx hb dL_law_753 (by decide) ?_
                                        refine lv_iadd hx hb dL_law_754 ?_
                                        obtain ⟨b_115, h⟩ := ift h
                                        refine va_sld hx hb hXs.1 hXs.2.1 hXs.2.2 hS.2 (inb_in b_115) dL_law_755 ?_
                                        obtain ⟨⟨r_116, M_117⟩, hq_118, h⟩ := ob h
                                        try dsimp only at h
                                        refine r_thenI hS (r_runV C hS hl.1 cv_L_90 rfl (c_X10_nearest l G F (xs (x3 + 1).toNatClampNeg) (xs (x3 + 2).toNatClampNeg) M  _ hq_118) ⟨by decide, by decide⟩ rfl rfl (Nat.le_of_ble_eq_true rfl) ⟨by decide, by decide⟩ dL_law_756) (fun H locs hS => ?_)
                                        refine lv_aload_n hx hb dL_law_759 rfl (lv_at hl 2 rfl) ?_
                                        refine lv_aload_n hx hb dL_law_760 rfl (lv_at hl 0 rfl) ?_
                                        refine lv_iload_n hx hb dL_law_761 rfl (lv_at hl 3 rfl) ?_
                                        refine lv_iconst (v := 1) hx hb dL_law_762 (by decide) ?_
                                        refine lv_iadd hx hb dL_law_763 ?_
                                        refine va_sld hx hb hXs.1 hXs.2.1 hXs.2.2 hS.2 (inb_in b_114) dL_law_764 ?_
                                        refine lv_aload_n hx hb dL_law_765 rfl (lv_at hl 0 rfl) ?_
                                        refine lv_iload_n hx hb dL_law_766 rfl (lv_at hl 3 rfl) ?_
                                        refine lv_iconst (v := 2) hx hb dL_law_767 (by decide) ?_
                                        refine lv_iadd hx hb dL_law_768 ?_
                                        refine va_sld hx hb hXs.1 hXs.2.1 hXs.2.2 hS.2 (inb_in b_115) dL_law_769 ?_
                                        obtain ⟨⟨r_119, M_120⟩, hq_121, h⟩ := ob h
                                        try dsimp only at h
                                        refine r_thenI hS (r_runV C hS hl.1 cv_L_93 rfl (c_X11_nearest l G F (xs (x3 + 1).toNatClampNeg) (xs (x3 + 2).toNatClampNeg) M_117  _ hq_121) ⟨by decide, by decide⟩ rfl rfl (Nat.le_of_ble_eq_true rfl) ⟨by decide, by decide⟩ dL_law_770) (fun H locs hS => ?_)
                                        refine lv_icmp_eq (tgt := 1079) hx hb dL_law_773 (by decide) (fun c_122 => ?_) (fun c_122 => ?_)
                                        · replace h := ifp c_122 h
                                          obtain ⟨x3_123, e_124, h⟩ := olt h
                                          refine lv_iinc (v := x3_123) (lv' := [(3, .int x3_123), (0, .ref b), (1, .ref (G.1 + 0)), (2, .ref (G.1 + 63))]) hx hb dL_law_1079 hl (k := 3) rfl (by rw [e_124]; rfl) (by decide) rfl (fun ls hl => ?_)
                                          refine lv_goto (tgt := 18) hx hb dL_law_1082 (by decide) ?_
                                          obtain rfl := Option.some.inj h
                                          exact hE _ _ _ hS (lv_sub hl [1, 2, 3, 0] rfl)
                                        · replace h := ifn c_122 h
                                          obtain rfl := Option.some.inj h
                                          exact hE _ _ _ hS (lv_sub hl [] rfl)
                                      · replace h := ifn c_20 h
                                        by_cases c_21 : ((xs x3.toNatClampNeg) &&& 31) = 18
                                        · replace h := ifp c_21 h
                                          refine r_nI c_21.symm ?_
                                          refine lv_tableIn (tgt := 778) (off := 746) hx hb dL_law_32 (by decide) (by decide) (by decide) (by decide) ?_
                                          refine lv_aload_n hx hb dL_law_778 rfl (lv_at hl 1 rfl) ?_
                                          refine lv_aload_n hx hb dL_law_779 rfl (lv_at hl 0 rfl) ?_
                                          refine lv_iload_n hx hb dL_law_780 rfl (lv_at hl 3 rfl) ?_
                                          refine lv_iconst (v := 1) hx hb dL_law_781 (by decide) ?_
                                          refine lv_iadd hx hb dL_law_782 ?_
                                          obtain ⟨b_102, h⟩ := ift h
                                          refine va_sld hx hb hXs.1 hXs.2.1 hXs.2.2 hS.2 (inb_in b_102) dL_law_783 ?_
                                          refine lv_aload_n hx hb dL_law_784 rfl (lv_at hl 0 rfl) ?_
                                          refine lv_iload_n hx hb dL_law_785 rfl (lv_at hl 3 rfl) ?_
                                          refine lv_iconst (v := 2) hx hb dL_law_786 (by decide) ?_
                                          refine lv_iadd hx hb dL_law_787 ?_
                                          obtain ⟨b_103, h⟩ := ift h
                                          refine va_sld hx hb hXs.1 hXs.2.1 hXs.2.2 hS.2 (inb_in b_103) dL_law_788 ?_
                                          refine lv_aload_n hx hb dL_law_789 rfl (lv_at hl 0 rfl) ?_
                                          refine lv_iload_n hx hb dL_law_790 rfl (lv_at hl 3 rfl) ?_
                                          refine lv_iconst (v := 3) hx hb dL_law_791 (by decide) ?_
                                          refine lv_iadd hx hb dL_law_792 ?_
                                          obtain ⟨b_104, h⟩ := ift h
                                          refine va_sld hx hb hXs.1 hXs.2.1 hXs.2.2 hS.2 (inb_in b_104) dL_law_793 ?_
                                          obtain ⟨⟨r_105, M_106⟩, hq_107, h⟩ := ob h
                                          try dsimp only at h
                                          refine r_thenI hS (r_runV C hS hl.1 cv_L_94 rfl (c_X10_led l G F (xs (x3 + 1).toNatClampNeg) (xs (x3 + 2).toNatClampNeg) (xs (x3 + 3).toNatClampNeg) M  _ hq_107) ⟨by decide, by decide⟩ rfl rfl (Nat.le_of_ble_eq_true rfl) ⟨by decide, by decide⟩ dL_law_794) (fun H locs hS => ?_)
                                          refine lv_aload_n hx hb dL_law_797 rfl (lv_at hl 2 rfl) ?_
                                          refine lv_aload_n hx hb dL_law_798 rfl (lv_at hl 0 rfl) ?_
                                          refine lv_iload_n hx hb dL_law_799 rfl (lv_at hl 3 rfl) ?_
                                          refine lv_iconst (v := 1) hx hb dL_law_800 (by decide) ?_
                                          refine lv_iadd hx hb dL_law_801 ?_
                                          refine va_sld hx hb hXs.1 hXs.2.1 hXs.2.2 hS.2 (inb_in b_102) dL_law_802 ?_
                                          refine lv_aload_n hx hb dL_law_803 rfl (lv_at hl 0 rfl) ?_
                                          refine lv_iload_n hx hb dL_law_804 rfl (lv_at hl 3 rfl) ?_
                                          refine lv_iconst (v := 2) hx hb dL_law_805 (by decide) ?_
                                          refine lv_iadd hx hb dL_law_806 ?_
                                          refine va_sld hx hb hXs.1 hXs.2.1 hXs.2.2 hS.2 (inb_in b_103) dL_law_807 ?_
                                          refine lv_aload_n hx hb dL_law_808 rfl (lv_at hl 0 rfl) ?_
                                          refine lv_iload_n hx hb dL_law_809 rfl (lv_at hl 3 rfl) ?_
                                          refine lv_iconst (v := 3) hx hb dL_law_810 (by decide) ?_
                                          refine lv_iadd hx hb dL_law_811 ?_
                                          refine va_sld hx hb hXs.1 hXs.2.1 hXs.2.2 hS.2 (inb_in b_104) dL_law_812 ?_
                                          obtain ⟨⟨r_108, M_109⟩, hq_110, h⟩ := ob h
                                          try dsimp only at h
                                          refine r_thenI hS (r_runV C hS hl.1 cv_L_97 rfl (c_X11_led l G F (xs (x3 + 1).toNatClampNeg) (xs (x3 + 2).toNatClampNeg) (xs (x3 + 3).toNatClampNeg) M_106  _ hq_110) ⟨by decide, by decide⟩ rfl rfl (Nat.le_of_ble_eq_true rfl) ⟨by decide, by decide⟩ dL_law_813) (fun H locs hS => ?_)
                                          refine lv_icmp_eq (tgt := 1079) hx hb dL_law_816 (by decide) (fun c_111 => ?_) (fun c_111 => ?_)
                                          · replace h := ifp c_111 h
                                            obtain ⟨x3_112, e_113, h⟩ := olt h
                                            refine lv_iinc (v := x3_112) (lv' := [(3, .int x3_112), (0, .ref b), (1, .ref (G.1 + 0)), (2, .ref (G.1 + 63))]) hx hb dL_law_1079 hl (k := 3) rfl (by rw [e_113]; rfl) (by decide) rfl (fun ls hl => ?_)
                                            refine lv_goto (tgt := 18) hx hb dL_law_1082 (by decide) ?_
                                            obtain rfl := Option.some.inj h
                                            exact hE _ _ _ hS (lv_sub hl [1, 2, 3, 0] rfl)
                                          · replace h := ifn c_111 h
                                            obtain rfl := Option.some.inj h
                                            exact hE _ _ _ hS (lv_sub hl [] rfl)
                                        · replace h := ifn c_21 h
                                          by_cases c_22 : ((xs x3.toNatClampNeg) &&& 31) = 19
                                          · replace h := ifp c_22 h
                                            refine r_nI c_22.symm ?_
                                            refine lv_tableIn (tgt := 821) (off := 789) hx hb dL_law_32 (by decide) (by decide) (by decide) (by decide) ?_
                                            refine lv_aload_n hx hb dL_law_821 rfl (lv_at hl 1 rfl) ?_
                                            refine lv_aload_n hx hb dL_law_822 rfl (lv_at hl 0 rfl) ?_
                                            refine lv_iload_n hx hb dL_law_823 rfl (lv_at hl 3 rfl) ?_
                                            refine lv_iconst (v := 1) hx hb dL_law_824 (by decide) ?_
                                            refine lv_iadd hx hb dL_law_825 ?_
                                            obtain ⟨b_90, h⟩ := ift h
                                            refine va_sld hx hb hXs.1 hXs.2.1 hXs.2.2 hS.2 (inb_in b_90) dL_law_826 ?_
                                            refine lv_aload_n hx hb dL_law_827 rfl (lv_at hl 0 rfl) ?_
                                            refine lv_iload_n hx hb dL_law_828 rfl (lv_at hl 3 rfl) ?_
                                            refine lv_iconst (v := 2) hx hb dL_law_829 (by decide) ?_
                                            refine lv_iadd hx hb dL_law_830 ?_
                                            obtain ⟨b_91, h⟩ := ift h
                                            refine va_sld hx hb hXs.1 hXs.2.1 hXs.2.2 hS.2 (inb_in b_91) dL_law_831 ?_
                                            refine lv_aload_n hx hb dL_law_832 rfl (lv_at hl 0 rfl) ?_
                                            refine lv_iload_n hx hb dL_law_833 rfl (lv_at hl 3 rfl) ?_
                                            refine lv_iconst (v := 3) hx hb dL_law_834 (by decide) ?_
                                            refine lv_iadd hx hb dL_law_835 ?_
                                            obtain ⟨b_92, h⟩ := ift h
                                            refine va_sld hx hb hXs.1 hXs.2.1 hXs.2.2 hS.2 (inb_in b_92) dL_law_836 ?_
                                            obtain ⟨⟨r_93, M_94⟩, hq_95, h⟩ := ob h
                                            try dsimp only at h
                                            refine r_thenI hS (r_runV C hS hl.1 cv_L_98 rfl (c_X10_chain l G F (xs (x3 + 1).toNatClampNeg) (xs (x3 + 2).toNatClampNeg) (xs (x3 + 3).toNatClampNeg) M  _ hq_95) ⟨by decide, by decide⟩ rfl rfl (Nat.le_of_ble_eq_true rfl) ⟨by decide, by decide⟩ dL_law_837) (fun H locs hS => ?_)
                                            refine lv_aload_n hx hb dL_law_840 rfl (lv_at hl 2 rfl) ?_
                                            refine lv_aload_n hx hb dL_law_841 rfl (lv_at hl 0 rfl) ?_
                                            refine lv_iload_n hx hb dL_law_842 rfl (lv_at hl 3 rfl) ?_
                                            refine lv_iconst (v := 1) hx hb dL_law_843 (by decide) ?_
                                            refine lv_iadd hx hb dL_law_844 ?_
                                            refine va_sld hx hb hXs.1 hXs.2.1 hXs.2.2 hS.2 (inb_in b_90) dL_law_845 ?_
                                            refine lv_aload_n hx hb dL_law_846 rfl (lv_at hl 0 rfl) ?_
                                            refine lv_iload_n hx hb dL_law_847 rfl (lv_at hl 3 rfl) ?_
                                            refine lv_iconst (v := 2) hx hb dL_law_848 (by decide) ?_
                                            refine lv_iadd hx hb dL_law_849 ?_
                                            refine va_sld hx hb hXs.1 hXs.2.1 hXs.2.2 hS.2 (inb_in b_91) dL_law_850 ?_
                                            refine lv_aload_n hx hb dL_law_851 rfl (lv_at hl 0 rfl) ?_
                                            refine lv_iload_n hx hb dL_law_852 rfl (lv_at hl 3 rfl) ?_
                                            refine lv_iconst (v := 3) hx hb dL_law_853 (by decide) ?_
                                            refine lv_iadd hx hb dL_law_854 ?_
                                            refine va_sld hx hb hXs.1 hXs.2.1 hXs.2.2 hS.2 (inb_in b_92) dL_law_855 ?_
                                            obtain ⟨⟨r_96, M_97⟩, hq_98, h⟩ := ob h
                                            try dsimp only at h
                                            refine r_thenI hS (r_runV C hS hl.1 cv_L_101 rfl (c_X11_chain l G F (xs (x3 + 1).toNatClampNeg) (xs (x3 + 2).toNatClampNeg) (xs (x3 + 3).toNatClampNeg) M_94  _ hq_98) ⟨by decide, by decide⟩ rfl rfl (Nat.le_of_ble_eq_true rfl) ⟨by decide, by decide⟩ dL_law_856) (fun H locs hS => ?_)
                                            refine lv_icmp_eq (tgt := 1079) hx hb dL_law_859 (by decide) (fun c_99 => ?_) (fun c_99 => ?_)
                                            · replace h := ifp c_99 h
                                              obtain ⟨x3_100, e_101, h⟩ := olt h
                                              refine lv_iinc (v := x3_100) (lv' := [(3, .int x3_100), (0, .ref b), (1, .ref (G.1 + 0)), (2, .ref (G.1 + 63))]) hx hb dL_law_1079 hl (k := 3) rfl (by rw [e_101]; rfl) (by decide) rfl (fun ls hl => ?_)
                                              refine lv_goto (tgt := 18) hx hb dL_law_1082 (by decide) ?_
                                              obtain rfl := Option.some.inj h
                                              exact hE _ _ _ hS (lv_sub hl [1, 2, 3, 0] rfl)
                                            · replace h := ifn c_99 h
                                              obtain rfl := Option.some.inj h
                                              exact hE _ _ _ hS (lv_sub hl [] rfl)
                                          · replace h := ifn c_22 h
                                            by_cases c_23 : ((xs x3.toNatClampNeg) &&& 31) = 20
                                            · replace h := ifp c_23 h
                                              refine r_nI c_23.symm ?_
                                              refine lv_tableIn (tgt := 864) (off := 832) hx hb dL_law_32 (by decide) (by decide) (by decide) (by decide) ?_
                                              refine lv_aload_n hx hb dL_law_864 rfl (lv_at hl 1 rfl) ?_
                                              refine lv_aload_n hx hb dL_law_865 rfl (lv_at hl 0 rfl) ?_
                                              refine lv_iload_n hx hb dL_law_866 rfl (lv_at hl 3 rfl) ?_
                                              refine lv_iconst (v := 1) hx hb dL_law_867 (by decide) ?_
                                              refine lv_iadd hx hb dL_law_868 ?_
                                              obtain ⟨b_79, h⟩ := ift h
                                              refine va_sld hx hb hXs.1 hXs.2.1 hXs.2.2 hS.2 (inb_in b_79) dL_law_869 ?_
                                              refine lv_aload_n hx hb dL_law_870 rfl (lv_at hl 0 rfl) ?_
                                              refine lv_iload_n hx hb dL_law_871 rfl (lv_at hl 3 rfl) ?_
                                              refine lv_iconst (v := 2) hx hb dL_law_872 (by decide) ?_
                                              refine lv_iadd hx hb dL_law_873 ?_
                                              obtain ⟨b_80, h⟩ := ift h
                                              refine va_sld hx hb hXs.1 hXs.2.1 hXs.2.2 hS.2 (inb_in b_80) dL_law_874 ?_
                                              obtain ⟨⟨r_81, M_82⟩, hq_83, h⟩ := ob h
                                              try dsimp only at h
                                              refine r_thenI hS (r_runV C hS hl.1 cv_L_102 rfl (c_X10_honest l G F (xs (x3 + 1).toNatClampNeg) (xs (x3 + 2).toNatClampNeg) M  _ hq_83) ⟨by decide, by decide⟩ rfl rfl (Nat.le_of_ble_eq_true rfl) ⟨by decide, by decide⟩ dL_law_875) (fun H locs hS => ?_)
                                              refine lv_aload_n hx hb dL_law_878 rfl (lv_at hl 2 rfl) ?_
                                              refine lv_aload_n hx hb dL_law_879 rfl (lv_at hl 0 rfl) ?_
                                              refine lv_iload_n hx hb dL_law_880 rfl (lv_at hl 3 rfl) ?_
                                              refine lv_iconst (v := 1) hx hb dL_law_881 (by decide) ?_
                                              refine lv_iadd hx hb dL_law_882 ?_
                                              refine va_sld hx hb hXs.1 hXs.2.1 hXs.2.2 hS.2 (inb_in b_79) dL_law_883 ?_
                                              refine lv_aload_n hx hb dL_law_884 rfl (lv_at hl 0 rfl) ?_
                                              refine lv_iload_n hx hb dL_law_885 rfl (lv_at hl 3 rfl) ?_
                                              refine lv_iconst (v := 2) hx hb dL_law_886 (by decide) ?_
                                              refine lv_iadd hx hb dL_law_887 ?_
                                              refine va_sld hx hb hXs.1 hXs.2.1 hXs.2.2 hS.2 (inb_in b_80) dL_law_888 ?_
                                              obtain ⟨⟨r_84, M_85⟩, hq_86, h⟩ := ob h
                                              try dsimp only at h
                                              refine r_thenI hS (r_runV C hS hl.1 cv_L_105 rfl (c_X11_honest l G F (xs (x3 + 1).toNatClampNeg) (xs (x3 + 2).toNatClampNeg) M_82  _ hq_86) ⟨by decide, by decide⟩ rfl rfl (Nat.le_of_ble_eq_true rfl) ⟨by decide, by decide⟩ dL_law_889) (fun H locs hS => ?_)
                                              refine lv_icmp_eq (tgt := 1079) hx hb dL_law_892 (by decide) (fun c_87 => ?_) (fun c_87 => ?_)
                                              · replace h := ifp c_87 h
                                                obtain ⟨x3_88, e_89, h⟩ := olt h
                                                refine lv_iinc (v := x3_88) (lv' := [(3, .int x3_88), (0, .ref b), (1, .ref (G.1 + 0)), (2, .ref (G.1 + 63))]) hx hb dL_law_1079 hl (k := 3) rfl (by rw [e_89]; rfl) (by decide) rfl (fun ls hl => ?_)
                                                refine lv_goto (tgt := 18) hx hb dL_law_1082 (by decide) ?_
                                                obtain rfl := Option.some.inj h
                                                exact hE _ _ _ hS (lv_sub hl [1, 2, 3, 0] rfl)
                                              · replace h := ifn c_87 h
                                                obtain rfl := Option.some.inj h
                                                exact hE _ _ _ hS (lv_sub hl [] rfl)
                                            · replace h := ifn c_23 h
                                              by_cases c_24 : ((xs x3.toNatClampNeg) &&& 31) = 21
                                              · replace h := ifp c_24 h
                                                refine r_nI c_24.symm ?_
                                                refine lv_tableIn (tgt := 897) (off := 865) hx hb dL_law_32 (by decide) (by decide) (by decide) (by decide) ?_
                                                refine lv_aload_n hx hb dL_law_897 rfl (lv_at hl 1 rfl) ?_
                                                refine lv_aload_n hx hb dL_law_898 rfl (lv_at hl 0 rfl) ?_
                                                refine lv_iload_n hx hb dL_law_899 rfl (lv_at hl 3 rfl) ?_
                                                refine lv_iconst (v := 1) hx hb dL_law_900 (by decide) ?_
                                                refine lv_iadd hx hb dL_law_901 ?_
                                                obtain ⟨b_67, h⟩ := ift h
                                                refine va_sld hx hb hXs.1 hXs.2.1 hXs.2.2 hS.2 (inb_in b_67) dL_law_902 ?_
                                                refine lv_aload_n hx hb dL_law_903 rfl (lv_at hl 0 rfl) ?_
                                                refine lv_iload_n hx hb dL_law_904 rfl (lv_at hl 3 rfl) ?_
                                                refine lv_iconst (v := 2) hx hb dL_law_905 (by decide) ?_
                                                refine lv_iadd hx hb dL_law_906 ?_
                                                obtain ⟨b_68, h⟩ := ift h
                                                refine va_sld hx hb hXs.1 hXs.2.1 hXs.2.2 hS.2 (inb_in b_68) dL_law_907 ?_
                                                refine lv_aload_n hx hb dL_law_908 rfl (lv_at hl 0 rfl) ?_
                                                refine lv_iload_n hx hb dL_law_909 rfl (lv_at hl 3 rfl) ?_
                                                refine lv_iconst (v := 3) hx hb dL_law_910 (by decide) ?_
                                                refine lv_iadd hx hb dL_law_911 ?_
                                                obtain ⟨b_69, h⟩ := ift h
                                                refine va_sld hx hb hXs.1 hXs.2.1 hXs.2.2 hS.2 (inb_in b_69) dL_law_912 ?_
                                                obtain ⟨⟨r_70, M_71⟩, hq_72, h⟩ := ob h
                                                try dsimp only at h
                                                refine r_thenI hS (r_runV C hS hl.1 cv_L_106 rfl (c_X10_far l G F (xs (x3 + 1).toNatClampNeg) (xs (x3 + 2).toNatClampNeg) (xs (x3 + 3).toNatClampNeg) M  _ hq_72) ⟨by decide, by decide⟩ rfl rfl (Nat.le_of_ble_eq_true rfl) ⟨by decide, by decide⟩ dL_law_913) (fun H locs hS => ?_)
                                                refine lv_aload_n hx hb dL_law_916 rfl (lv_at hl 2 rfl) ?_
                                                refine lv_aload_n hx hb dL_law_917 rfl (lv_at hl 0 rfl) ?_
                                                refine lv_iload_n hx hb dL_law_918 rfl (lv_at hl 3 rfl) ?_
                                                refine lv_iconst (v := 1) hx hb dL_law_919 (by decide) ?_
                                                refine lv_iadd hx hb dL_law_920 ?_
                                                refine va_sld hx hb hXs.1 hXs.2.1 hXs.2.2 hS.2 (inb_in b_67) dL_law_921 ?_
                                                refine lv_aload_n hx hb dL_law_922 rfl (lv_at hl 0 rfl) ?_
                                                refine lv_iload_n hx hb dL_law_923 rfl (lv_at hl 3 rfl) ?_
                                                refine lv_iconst (v := 2) hx hb dL_law_924 (by decide) ?_
                                                refine lv_iadd hx hb dL_law_925 ?_
                                                refine va_sld hx hb hXs.1 hXs.2.1 hXs.2.2 hS.2 (inb_in b_68) dL_law_926 ?_
                                                refine lv_aload_n hx hb dL_law_927 rfl (lv_at hl 0 rfl) ?_
                                                refine lv_iload_n hx hb dL_law_928 rfl (lv_at hl 3 rfl) ?_
                                                refine lv_iconst (v := 3) hx hb dL_law_929 (by decide) ?_
                                                refine lv_iadd hx hb dL_law_930 ?_
                                                refine va_sld hx hb hXs.1 hXs.2.1 hXs.2.2 hS.2 (inb_in b_69) dL_law_931 ?_
                                                obtain ⟨⟨r_73, M_74⟩, hq_75, h⟩ := ob h
                                                try dsimp only at h
                                                refine r_thenI hS (r_runV C hS hl.1 cv_L_109 rfl (c_X11_far l G F (xs (x3 + 1).toNatClampNeg) (xs (x3 + 2).toNatClampNeg) (xs (x3 + 3).toNatClampNeg) M_71  _ hq_75) ⟨by decide, by decide⟩ rfl rfl (Nat.le_of_ble_eq_true rfl) ⟨by decide, by decide⟩ dL_law_932) (fun H locs hS => ?_)
                                                refine lv_icmp_eq (tgt := 1079) hx hb dL_law_935 (by decide) (fun c_76 => ?_) (fun c_76 => ?_)
                                                · replace h := ifp c_76 h
                                                  obtain ⟨x3_77, e_78, h⟩ := olt h
                                                  refine lv_iinc (v := x3_77) (lv' := [(3, .int x3_77), (0, .ref b), (1, .ref (G.1 + 0)), (2, .ref (G.1 + 63))]) hx hb dL_law_1079 hl (k := 3) rfl (by rw [e_78]; rfl) (by decide) rfl (fun ls hl => ?_)
                                                  refine lv_goto (tgt := 18) hx hb dL_law_1082 (by decide) ?_
                                                  obtain rfl := Option.some.inj h
                                                  exact hE _ _ _ hS (lv_sub hl [1, 2, 3, 0] rfl)
                                                · replace h := ifn c_76 h
                                                  obtain rfl := Option.some.inj h
                                                  exact hE _ _ _ hS (lv_sub hl [] rfl)
                                              · replace h := ifn c_24 h
                                                by_cases c_25 : ((xs x3.toNatClampNeg) &&& 31) = 22
                                                · replace h := ifp c_25 h
                                                  refine r_nI c_25.symm ?_
                                                  refine lv_tableIn (tgt := 940) (off := 908) hx hb dL_law_32 (by decide) (by decide) (by decide) (by decide) ?_
                                                  refine lv_aload_n hx hb dL_law_940 rfl (lv_at hl 1 rfl) ?_
                                                  refine lv_aload_n hx hb dL_law_941 rfl (lv_at hl 0 rfl) ?_
                                                  refine lv_iload_n hx hb dL_law_942 rfl (lv_at hl 3 rfl) ?_
                                                  refine lv_iconst (v := 1) hx hb dL_law_943 (by decide) ?_
                                                  refine lv_iadd hx hb dL_law_944 ?_
                                                  obtain ⟨b_54, h⟩ := ift h
                                                  refine va_sld hx hb hXs.1 hXs.2.1 hXs.2.2 hS.2 (inb_in b_54) dL_law_945 ?_
                                                  refine lv_aload_n hx hb dL_law_946 rfl (lv_at hl 0 rfl) ?_
                                                  refine lv_iload_n hx hb dL_law_947 rfl (lv_at hl 3 rfl) ?_
                                                  refine lv_iconst (v := 2) hx hb dL_law_948 (by decide) ?_
                                                  refine lv_iadd hx hb dL_law_949 ?_
                                                  obtain ⟨b_55, h⟩ := ift h
                                                  refine va_sld hx hb hXs.1 hXs.2.1 hXs.2.2 hS.2 (inb_in b_55) dL_law_950 ?_
                                                  refine lv_aload_n hx hb dL_law_951 rfl (lv_at hl 0 rfl) ?_
                                                  refine lv_iload_n hx hb dL_law_952 rfl (lv_at hl 3 rfl) ?_
                                                  refine lv_iconst (v := 3) hx hb dL_law_953 (by decide) ?_
                                                  refine lv_iadd hx hb dL_law_954 ?_
                                                  obtain ⟨b_56, h⟩ := ift h
                                                  refine va_sld hx hb hXs.1 hXs.2.1 hXs.2.2 hS.2 (inb_in b_56) dL_law_955 ?_
                                                  refine lv_aload_n hx hb dL_law_956 rfl (lv_at hl 0 rfl) ?_
                                                  refine lv_iload_n hx hb dL_law_957 rfl (lv_at hl 3 rfl) ?_
                                                  refine lv_iconst (v := 4) hx hb dL_law_958 (by decide) ?_
                                                  refine lv_iadd hx hb dL_law_959 ?_
                                                  obtain ⟨b_57, h⟩ := ift h
                                                  refine va_sld hx hb hXs.1 hXs.2.1 hXs.2.2 hS.2 (inb_in b_57) dL_law_960 ?_
                                                  obtain ⟨⟨r_58, M_59⟩, hq_60, h⟩ := ob h
                                                  try dsimp only at h
                                                  refine r_thenI hS (r_runV C hS hl.1 cv_L_110 rfl (c_X10_mixed l G F (xs (x3 + 1).toNatClampNeg) (xs (x3 + 2).toNatClampNeg) (xs (x3 + 3).toNatClampNeg) (xs (x3 + 4).toNatClampNeg) M  _ hq_60) ⟨by decide, by decide⟩ rfl rfl (Nat.le_of_ble_eq_true rfl) ⟨by decide, by decide⟩ dL_law_961) (fun H locs hS => ?_)
                                                  refine lv_aload_n hx hb dL_law_964 rfl (lv_at hl 2 rfl) ?_
                                                  refine lv_aload_n hx hb dL_law_965 rfl (lv_at hl 0 rfl) ?_
                                                  refine lv_iload_n hx hb dL_law_966 rfl (lv_at hl 3 rfl) ?_
                                                  refine lv_iconst (v := 1) hx hb dL_law_967 (by decide) ?_
                                                  refine lv_iadd hx hb dL_law_968 ?_
                                                  refine va_sld hx hb hXs.1 hXs.2.1 hXs.2.2 hS.2 (inb_in b_54) dL_law_969 ?_
                                                  refine lv_aload_n hx hb dL_law_970 rfl (lv_at hl 0 rfl) ?_
                                                  refine lv_iload_n hx hb dL_law_971 rfl (lv_at hl 3 rfl) ?_
                                                  refine lv_iconst (v := 2) hx hb dL_law_972 (by decide) ?_
                                                  refine lv_iadd hx hb dL_law_973 ?_
                                                  refine va_sld hx hb hXs.1 hXs.2.1 hXs.2.2 hS.2 (inb_in b_55) dL_law_974 ?_
                                                  refine lv_aload_n hx hb dL_law_975 rfl (lv_at hl 0 rfl) ?_
                                                  refine lv_iload_n hx hb dL_law_976 rfl (lv_at hl 3 rfl) ?_
                                                  refine lv_iconst (v := 3) hx hb dL_law_977 (by decide) ?_
                                                  refine lv_iadd hx hb dL_law_978 ?_
                                                  refine va_sld hx hb hXs.1 hXs.2.1 hXs.2.2 hS.2 (inb_in b_56) dL_law_979 ?_
                                                  refine lv_aload_n hx hb dL_law_980 rfl (lv_at hl 0 rfl) ?_
                                                  refine lv_iload_n hx hb dL_law_981 rfl (lv_at hl 3 rfl) ?_
                                                  refine lv_iconst (v := 4) hx hb dL_law_982 (by decide) ?_
                                                  refine lv_iadd hx hb dL_law_983 ?_
                                                  refine va_sld hx hb hXs.1 hXs.2.1 hXs.2.2 hS.2 (inb_in b_57) dL_law_984 ?_
                                                  obtain ⟨⟨r_61, M_62⟩, hq_63, h⟩ := ob h
                                                  try dsimp only at h
                                                  refine r_thenI hS (r_runV C hS hl.1 cv_L_113 rfl (c_X11_mixed l G F (xs (x3 + 1).toNatClampNeg) (xs (x3 + 2).toNatClampNeg) (xs (x3 + 3).toNatClampNeg) (xs (x3 + 4).toNatClampNeg) M_59  _ hq_63) ⟨by decide, by decide⟩ rfl rfl (Nat.le_of_ble_eq_true rfl) ⟨by decide, by decide⟩ dL_law_985) (fun H locs hS => ?_)
                                                  refine lv_icmp_eq (tgt := 1079) hx hb dL_law_988 (by decide) (fun c_64 => ?_) (fun c_64 => ?_)
                                                  · replace h := ifp c_64 h
                                                    obtain ⟨x3_65, e_66, h⟩ := olt h
                                                    refine lv_iinc (v := x3_65) (lv' := [(3, .int x3_65), (0, .ref b), (1, .ref (G.1 + 0)), (2, .ref (G.1 + 63))]) hx hb dL_law_1079 hl (k := 3) rfl (by rw [e_66]; rfl) (by decide) rfl (fun ls hl => ?_)
                                                    refine lv_goto (tgt := 18) hx hb dL_law_1082 (by decide) ?_
                                                    obtain rfl := Option.some.inj h
                                                    exact hE _ _ _ hS (lv_sub hl [1, 2, 3, 0] rfl)
                                                  · replace h := ifn c_64 h
                                                    obtain rfl := Option.some.inj h
                                                    exact hE _ _ _ hS (lv_sub hl [] rfl)
                                                · replace h := ifn c_25 h
                                                  by_cases c_26 : ((xs x3.toNatClampNeg) &&& 31) = 23
                                                  · replace h := ifp c_26 h
                                                    refine r_nI c_26.symm ?_
                                                    refine lv_tableIn (tgt := 993) (off := 961) hx hb dL_law_32 (by decide) (by decide) (by decide) (by decide) ?_
                                                    refine lv_aload_n hx hb dL_law_993 rfl (lv_at hl 1 rfl) ?_
                                                    refine lv_aload_n hx hb dL_law_994 rfl (lv_at hl 0 rfl) ?_
                                                    refine lv_iload_n hx hb dL_law_995 rfl (lv_at hl 3 rfl) ?_
                                                    refine lv_iconst (v := 1) hx hb dL_law_996 (by decide) ?_
                                                    refine lv_iadd hx hb dL_law_997 ?_
                                                    obtain ⟨b_41, h⟩ := ift h
                                                    refine va_sld hx hb hXs.1 hXs.2.1 hXs.2.2 hS.2 (inb_in b_41) dL_law_998 ?_
                                                    refine lv_aload_n hx hb dL_law_999 rfl (lv_at hl 0 rfl) ?_
                                                    refine lv_iload_n hx hb dL_law_1000 rfl (lv_at hl 3 rfl) ?_
                                                    refine lv_iconst (v := 2) hx hb dL_law_1001 (by decide) ?_
                                                    refine lv_iadd hx hb dL_law_1002 ?_
                                                    obtain ⟨b_42, h⟩ := ift h
                                                    refine va_sld hx hb hXs.1 hXs.2.1 hXs.2.2 hS.2 (inb_in b_42) dL_law_1003 ?_
                                                    refine lv_aload_n hx hb dL_law_1004 rfl (lv_at hl 0 rfl) ?_
                                                    refine lv_iload_n hx hb dL_law_1005 rfl (lv_at hl 3 rfl) ?_
                                                    refine lv_iconst (v := 3) hx hb dL_law_1006 (by decide) ?_
                                                    refine lv_iadd hx hb dL_law_1007 ?_
                                                    obtain ⟨b_43, h⟩ := ift h
                                                    refine va_sld hx hb hXs.1 hXs.2.1 hXs.2.2 hS.2 (inb_in b_43) dL_law_1008 ?_
                                                    refine lv_aload_n hx hb dL_law_1009 rfl (lv_at hl 0 rfl) ?_
                                                    refine lv_iload_n hx hb dL_law_1010 rfl (lv_at hl 3 rfl) ?_
                                                    refine lv_iconst (v := 4) hx hb dL_law_1011 (by decide) ?_
                                                    refine lv_iadd hx hb dL_law_1012 ?_
                                                    obtain ⟨b_44, h⟩ := ift h
                                                    refine va_sld hx hb hXs.1 hXs.2.1 hXs.2.2 hS.2 (inb_in b_44) dL_law_1013 ?_
                                                    obtain ⟨⟨r_45, M_46⟩, hq_47, h⟩ := ob h
                                                    try dsimp only at h
                                                    refine r_thenI hS (r_runV C hS hl.1 cv_L_114 rfl (c_X10_square l G F (xs (x3 + 1).toNatClampNeg) (xs (x3 + 2).toNatClampNeg) (xs (x3 + 3).toNatClampNeg) (xs (x3 + 4).toNatClampNeg) M  _ hq_47) ⟨by decide, by decide⟩ rfl rfl (Nat.le_of_ble_eq_true rfl) ⟨by decide, by decide⟩ dL_law_1014) (fun H locs hS => ?_)
                                                    refine lv_aload_n hx hb dL_law_1017 rfl (lv_at hl 2 rfl) ?_
                                                    refine lv_aload_n hx hb dL_law_1018 rfl (lv_at hl 0 rfl) ?_
                                                    refine lv_iload_n hx hb dL_law_1019 rfl (lv_at hl 3 rfl) ?_
                                                    refine lv_iconst (v := 1) hx hb dL_law_1020 (by decide) ?_
                                                    refine lv_iadd hx hb dL_law_1021 ?_
                                                    refine va_sld hx hb hXs.1 hXs.2.1 hXs.2.2 hS.2 (inb_in b_41) dL_law_1022 ?_
                                                    refine lv_aload_n hx hb dL_law_1023 rfl (lv_at hl 0 rfl) ?_
                                                    refine lv_iload_n hx hb dL_law_1024 rfl (lv_at hl 3 rfl) ?_
                                                    refine lv_iconst (v := 2) hx hb dL_law_1025 (by decide) ?_
                                                    refine lv_iadd hx hb dL_law_1026 ?_
                                                    refine va_sld hx hb hXs.1 hXs.2.1 hXs.2.2 hS.2 (inb_in b_42) dL_law_1027 ?_
                                                    refine lv_aload_n hx hb dL_law_1028 rfl (lv_at hl 0 rfl) ?_
                                                    refine lv_iload_n hx hb dL_law_1029 rfl (lv_at hl 3 rfl) ?_
                                                    refine lv_iconst (v := 3) hx hb dL_law_1030 (by decide) ?_
                                                    refine lv_iadd hx hb dL_law_1031 ?_
                                                    refine va_sld hx hb hXs.1 hXs.2.1 hXs.2.2 hS.2 (inb_in b_43) dL_law_1032 ?_
                                                    refine lv_aload_n hx hb dL_law_1033 rfl (lv_at hl 0 rfl) ?_
                                                    refine lv_iload_n hx hb dL_law_1034 rfl (lv_at hl 3 rfl) ?_
                                                    refine lv_iconst (v := 4) hx hb dL_law_1035 (by decide) ?_
                                                    refine lv_iadd hx hb dL_law_1036 ?_
                                                    refine va_sld hx hb hXs.1 hXs.2.1 hXs.2.2 hS.2 (inb_in b_44) dL_law_1037 ?_
                                                    obtain ⟨⟨r_48, M_49⟩, hq_50, h⟩ := ob h
                                                    try dsimp only at h
                                                    refine r_thenI hS (r_runV C hS hl.1 cv_L_117 rfl (c_X11_square l G F (xs (x3 + 1).toNatClampNeg) (xs (x3 + 2).toNatClampNeg) (xs (x3 + 3).toNatClampNeg) (xs (x3 + 4).toNatClampNeg) M_46  _ hq_50) ⟨by decide, by decide⟩ rfl rfl (Nat.le_of_ble_eq_true rfl) ⟨by decide, by decide⟩ dL_law_1038) (fun H locs hS => ?_)
                                                    refine lv_icmp_eq (tgt := 1079) hx hb dL_law_1041 (by decide) (fun c_51 => ?_) (fun c_51 => ?_)
                                                    · replace h := ifp c_51 h
                                                      obtain ⟨x3_52, e_53, h⟩ := olt h
                                                      refine lv_iinc (v := x3_52) (lv' := [(3, .int x3_52), (0, .ref b), (1, .ref (G.1 + 0)), (2, .ref (G.1 + 63))]) hx hb dL_law_1079 hl (k := 3) rfl (by rw [e_53]; rfl) (by decide) rfl (fun ls hl => ?_)
                                                      refine lv_goto (tgt := 18) hx hb dL_law_1082 (by decide) ?_
                                                      obtain rfl := Option.some.inj h
                                                      exact hE _ _ _ hS (lv_sub hl [1, 2, 3, 0] rfl)
                                                    · replace h := ifn c_51 h
                                                      obtain rfl := Option.some.inj h
                                                      exact hE _ _ _ hS (lv_sub hl [] rfl)
                                                  · replace h := ifn c_26 h
                                                    by_cases c_27 : ((xs x3.toNatClampNeg) &&& 31) = 24
                                                    · replace h := ifp c_27 h
                                                      refine r_nI c_27.symm ?_
                                                      refine lv_tableIn (tgt := 1046) (off := 1014) hx hb dL_law_32 (by decide) (by decide) (by decide) (by decide) ?_
                                                      refine lv_aload_n hx hb dL_law_1046 rfl (lv_at hl 1 rfl) ?_
                                                      refine lv_aload_n hx hb dL_law_1047 rfl (lv_at hl 0 rfl) ?_
                                                      refine lv_iload_n hx hb dL_law_1048 rfl (lv_at hl 3 rfl) ?_
                                                      refine lv_iconst (v := 1) hx hb dL_law_1049 (by decide) ?_
                                                      refine lv_iadd hx hb dL_law_1050 ?_
                                                      obtain ⟨b_30, h⟩ := ift h
                                                      refine va_sld hx hb hXs.1 hXs.2.1 hXs.2.2 hS.2 (inb_in b_30) dL_law_1051 ?_
                                                      refine lv_aload_n hx hb dL_law_1052 rfl (lv_at hl 0 rfl) ?_
                                                      refine lv_iload_n hx hb dL_law_1053 rfl (lv_at hl 3 rfl) ?_
                                                      refine lv_iconst (v := 2) hx hb dL_law_1054 (by decide) ?_
                                                      refine lv_iadd hx hb dL_law_1055 ?_
                                                      obtain ⟨b_31, h⟩ := ift h
                                                      refine va_sld hx hb hXs.1 hXs.2.1 hXs.2.2 hS.2 (inb_in b_31) dL_law_1056 ?_
                                                      obtain ⟨⟨r_32, M_33⟩, hq_34, h⟩ := ob h
                                                      try dsimp only at h
                                                      refine r_thenI hS (r_runV C hS hl.1 cv_L_118 rfl (c_X10_squares l G F (xs (x3 + 1).toNatClampNeg) (xs (x3 + 2).toNatClampNeg) M  _ hq_34) ⟨by decide, by decide⟩ rfl rfl (Nat.le_of_ble_eq_true rfl) ⟨by decide, by decide⟩ dL_law_1057) (fun H locs hS => ?_)
                                                      refine lv_aload_n hx hb dL_law_1060 rfl (lv_at hl 2 rfl) ?_
                                                      refine lv_aload_n hx hb dL_law_1061 rfl (lv_at hl 0 rfl) ?_
                                                      refine lv_iload_n hx hb dL_law_1062 rfl (lv_at hl 3 rfl) ?_
                                                      refine lv_iconst (v := 1) hx hb dL_law_1063 (by decide) ?_
                                                      refine lv_iadd hx hb dL_law_1064 ?_
                                                      refine va_sld hx hb hXs.1 hXs.2.1 hXs.2.2 hS.2 (inb_in b_30) dL_law_1065 ?_
                                                      refine lv_aload_n hx hb dL_law_1066 rfl (lv_at hl 0 rfl) ?_
                                                      refine lv_iload_n hx hb dL_law_1067 rfl (lv_at hl 3 rfl) ?_
                                                      refine lv_iconst (v := 2) hx hb dL_law_1068 (by decide) ?_
                                                      refine lv_iadd hx hb dL_law_1069 ?_
                                                      refine va_sld hx hb hXs.1 hXs.2.1 hXs.2.2 hS.2 (inb_in b_31) dL_law_1070 ?_
                                                      obtain ⟨⟨r_35, M_36⟩, hq_37, h⟩ := ob h
                                                      try dsimp only at h
                                                      refine r_thenI hS (r_runV C hS hl.1 cv_L_121 rfl (c_X11_squares l G F (xs (x3 + 1).toNatClampNeg) (xs (x3 + 2).toNatClampNeg) M_33  _ hq_37) ⟨by decide, by decide⟩ rfl rfl (Nat.le_of_ble_eq_true rfl) ⟨by decide, by decide⟩ dL_law_1071) (fun H locs hS => ?_)
                                                      refine lv_icmp_eq (tgt := 1079) hx hb dL_law_1074 (by decide) (fun c_38 => ?_) (fun c_38 => ?_)
                                                      · replace h := ifp c_38 h
                                                        obtain ⟨x3_39, e_40, h⟩ := olt h
                                                        refine lv_iinc (v := x3_39) (lv' := [(3, .int x3_39), (0, .ref b), (1, .ref (G.1 + 0)), (2, .ref (G.1 + 63))]) hx hb dL_law_1079 hl (k := 3) rfl (by rw [e_40]; rfl) (by decide) rfl (fun ls hl => ?_)
                                                        refine lv_goto (tgt := 18) hx hb dL_law_1082 (by decide) ?_
                                                        obtain rfl := Option.some.inj h
                                                        exact hE _ _ _ hS (lv_sub hl [1, 2, 3, 0] rfl)
                                                      · replace h := ifn c_38 h
                                                        obtain rfl := Option.some.inj h
                                                        exact hE _ _ _ hS (lv_sub hl [] rfl)
                                                    · replace h := ifn c_27 h
                                                      refine lv_tableOut (tgt := 1079) hx hb dL_law_32 (by have := ne_toInt c_3 (n := 0) (by decide); have := ne_toInt c_4 (n := 1) (by decide); have := ne_toInt c_5 (n := 2) (by decide); have := ne_toInt c_6 (n := 3) (by decide); have := ne_toInt c_7 (n := 4) (by decide); have := ne_toInt c_8 (n := 5) (by decide); have := ne_toInt c_9 (n := 6) (by decide); have := ne_toInt c_10 (n := 7) (by decide); have := ne_toInt c_11 (n := 8) (by decide); have := ne_toInt c_12 (n := 9) (by decide); have := ne_toInt c_13 (n := 10) (by decide); have := ne_toInt c_14 (n := 11) (by decide); have := ne_toInt c_15 (n := 12) (by decide); have := ne_toInt c_16 (n := 13) (by decide); have := ne_toInt c_17 (n := 14) (by decide); have := ne_toInt c_18 (n := 15) (by decide); have := ne_toInt c_19 (n := 16) (by decide); have := ne_toInt c_20 (n := 17) (by decide); have := ne_toInt c_21 (n := 18) (by decide); have := ne_toInt c_22 (n := 19) (by decide); have := ne_toInt c_23 (n := 20) (by decide); have := ne_toInt c_24 (n := 21) (by decide); have := ne_toInt c_25 (n := 22) (by decide); have := ne_toInt c_26 (n := 23) (by decide); have := ne_toInt c_27 (n := 24) (by decide); omega) (by decide) ?_
                                                      obtain ⟨x3_28, e_29, h⟩ := olt h
                                                      refine lv_iinc (v := x3_28) (lv' := [(3, .int x3_28), (0, .ref b), (1, .ref (G.1 + 0)), (2, .ref (G.1 + 63))]) hx hb dL_law_1079 hl (k := 3) rfl (by rw [e_29]; rfl) (by decide) rfl (fun ls hl => ?_)
                                                      refine lv_goto (tgt := 18) hx hb dL_law_1082 (by decide) ?_
                                                      obtain rfl := Option.some.inj h
                                                      exact hE _ _ _ hS (lv_sub hl [1, 2, 3, 0] rfl)

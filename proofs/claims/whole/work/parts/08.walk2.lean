set_option maxHeartbeats 4000000 in
set_option maxRecDepth 100000 in
theorem c_X3_byteOf (l : Launch) (G : Gl) (F : Nat) (x0 : Int32) (M : zM)  (q : Int32 × zM) (h : Lin_byteOf F x0 M = some q) : Met l yX3_byteOf (wsM yX3_byteOf cX3_byteOf 1 (some .int)) (rmM 0 0) (Pre G M [.int x0]) (PoI G q) 0 0 (gA G) := by
  refine r_met (own := RX3) rfl (by decide) (Nat.le_of_ble_eq_true rfl) ?_
  intro p e s m below meth c ls C hr hlk hS hl
  have hl : lv_has ls 1 [(0, .int x0)] := hl
  obtain ⟨hx, hb, -⟩ := id C
  unfold Lin_byteOf at h
  refine lv_iload_n hx hb dX3_byteOf_0 rfl (lv_at hl 0 rfl) ?_
  refine lv_iconst (v := 1) hx hb dX3_byteOf_1 (by decide) ?_
  refine lv_icmp_ne (tgt := 10) hx hb dX3_byteOf_2 (by decide) (fun c_1 => ?_) (fun c_1 => ?_)
  · replace h := ifn c_1 h
    refine lv_iload_n hx hb dX3_byteOf_10 rfl (lv_at hl 0 rfl) ?_
    refine lv_bipush (v := 95) hx hb dX3_byteOf_11 (by decide) ?_
    refine lv_iadd hx hb dX3_byteOf_13 ?_
    exact r_iret C hS hr hlk h dX3_byteOf_14
  · replace h := ifp c_1 h
    refine lv_bipush (v := 32) hx hb dX3_byteOf_5 (by decide) ?_
    refine lv_goto (tgt := 14) hx hb dX3_byteOf_7 (by decide) ?_
    exact r_iret C hS hr hlk h dX3_byteOf_14
set_option maxHeartbeats 4000000 in
set_option maxRecDepth 100000 in
theorem c_X3_empty (l : Launch) (G : Gl) (F : Nat) (a0 : Nat) (M : zM) (k0 : zK a0 = 3) (q : Unit × zM) (h : Lin_empty F a0 M = some q) : Met l yX3_empty (wsM yX3_empty cX3_empty 1 none) (rmM 1 24) (Pre G M [.ref (G.1 + a0)]) (PoV G q) 0 0 (gA G) := by
  refine r_met (own := RX3) rfl (by decide) (Nat.le_of_ble_eq_true rfl) ?_
  intro p e s m below meth c ls C hr hlk hS hl
  have hl : lv_has ls 1 [(0, .ref (G.1 + a0))] := hl
  obtain ⟨hx, hb, -⟩ := id C
  unfold Lin_empty at h
  refine lv_aload_n hx hb dX3_empty_0 rfl (lv_at hl 0 rfl) ?_
  refine r_gR C hS fl_X3_11 rfl k0 (zR_3_0 k0) dX3_empty_1 ?_
  refine lv_lconst (v := 0) hx hb dX3_empty_4 (by decide) ?_
  obtain ⟨⟨_r_1, M_2⟩, hq_3, h⟩ := ob h
  try dsimp only at h
  refine r_thenV hS (r_runS C hS hl.1 cs_X3_15 (c_J7_fill_d0a16 l G F (a0 + 1) 0 M (zKr_3_0 k0) _ hq_3) ⟨by decide, by decide⟩ rfl rfl (Nat.le_of_ble_eq_true rfl) ⟨Nat.zero_le _, Nat.zero_le _⟩ dX3_empty_5) (fun H locs hS => ?_)
  refine lv_aload_n hx hb dX3_empty_8 rfl (lv_at hl 0 rfl) ?_
  refine lv_iconst (v := 0) hx hb dX3_empty_9 (by decide) ?_
  obtain ⟨M_4, e_5, h⟩ := olt h
  refine r_pI C hS fp_X3_21 rfl k0 e_5 dX3_empty_10 (fun H locs hS => ?_)
  exact r_vret C hS hr hlk h dX3_empty_13
set_option maxHeartbeats 4000000 in
set_option maxRecDepth 100000 in
theorem c_X3_size (l : Launch) (G : Gl) (F : Nat) (a0 : Nat) (M : zM) (k0 : zK a0 = 3) (q : Int32 × zM) (h : Lin_size F a0 M = some q) : Met l yX3_size (wsM yX3_size cX3_size 1 (some .int)) (rmM 0 0) (Pre G M [.ref (G.1 + a0)]) (PoI G q) 0 0 (gA G) := by
  refine r_met (own := RX3) rfl (by decide) (Nat.le_of_ble_eq_true rfl) ?_
  intro p e s m below meth c ls C hr hlk hS hl
  have hl : lv_has ls 1 [(0, .ref (G.1 + a0))] := hl
  obtain ⟨hx, hb, -⟩ := id C
  unfold Lin_size at h
  refine lv_aload_n hx hb dX3_size_0 rfl (lv_at hl 0 rfl) ?_
  refine r_gI C hS fl_X3_21 rfl k0 dX3_size_1 ?_
  exact r_iret C hS hr hlk h dX3_size_4
set_option maxHeartbeats 4000000 in
set_option maxRecDepth 100000 in
theorem c_X3_signs (l : Launch) (G : Gl) (F : Nat) (a0 : Nat) (x1 : Int32) (M : zM) (k0 : zK a0 = 3) (q : Int64 × zM) (h : Lin_signs F a0 x1 M = some q) : Met l yX3_signs (wsM yX3_signs cX3_signs 2 (some .long)) (rmM 0 0) (Pre G M [.ref (G.1 + a0), .int x1]) (PoL G q) 0 0 (gA G) := by
  refine r_met (own := RX3) rfl (by decide) (Nat.le_of_ble_eq_true rfl) ?_
  intro p e s m below meth c ls C hr hlk hS hl
  have hl : lv_has ls 2 [(0, .ref (G.1 + a0)), (1, .int x1)] := hl
  obtain ⟨hx, hb, -⟩ := id C
  unfold Lin_signs at h
  refine lv_iload_n hx hb dX3_signs_0 rfl (lv_at hl 1 rfl) ?_
  refine lv_if_lt (tgt := 18) hx hb dX3_signs_1 (by decide) (fun c_1 => ?_) (fun c_1 => ?_)
  · replace h := ifp c_1 h
    refine lv_lconst (v := 0) hx hb dX3_signs_18 (by decide) ?_
    exact r_lret C hS hr hlk h dX3_signs_19
  · replace h := ifn c_1 h
    refine lv_iload_n hx hb dX3_signs_4 rfl (lv_at hl 1 rfl) ?_
    refine lv_iconst (v := 5) hx hb dX3_signs_5 (by decide) ?_
    refine lv_icmp_ge (tgt := 18) hx hb dX3_signs_6 (by decide) (fun c_2 => ?_) (fun c_2 => ?_)
    · replace h := ifp c_2 h
      refine lv_lconst (v := 0) hx hb dX3_signs_18 (by decide) ?_
      exact r_lret C hS hr hlk h dX3_signs_19
    · replace h := ifn c_2 h
      refine lv_aload_n hx hb dX3_signs_9 rfl (lv_at hl 0 rfl) ?_
      refine r_gR C hS fl_X3_11 rfl k0 (zR_3_0 k0) dX3_signs_10 ?_
      refine lv_iload_n hx hb dX3_signs_13 rfl (lv_at hl 1 rfl) ?_
      obtain ⟨b_3, h⟩ := ift h
      refine r_lald C hS (zKr_3_0 k0) (zNr_3_0 k0) b_3 dX3_signs_14 ?_
      refine lv_goto (tgt := 19) hx hb dX3_signs_15 (by decide) ?_
      exact r_lret C hS hr hlk h dX3_signs_19
set_option maxHeartbeats 4000000 in
set_option maxRecDepth 100000 in
theorem w_Lin_append_J83 {G : Gl} {p : Program} {l : Launch} {e : Env} {s : State} {m : MethodId} {args : Array Value} {below : List Frame} {meth : Method} {c : Code} (C : Cx G cX3_append 6 RX3 p s m args c) (hr : meth.sig.returnType = (some .boolean)) (hlk : meth.locks = false) (F : Nat) (a0 : Nat) (x3 : Int32) (M : zM) (k0 : zK a0 = 3) (q : Int32 × zM) (h : Lin_append_J83 F a0 x3 M = some q) (H : Heap) (locs : List Loc) (ls : Array Slot) (hS : St G M s H locs) (hl : lv_has ls 6 [(0, .ref (G.1 + a0)), (3, .int x3)]) : W p l e (rmM 0 0) s m args below meth c H locs 0 0 (MQ below (PoI G q) args s 0 0 (gA G)) (F0 m 83 ls []) := by
  obtain ⟨hx, hb, -⟩ := id C
  unfold Lin_append_J83 at h
  refine lv_aload_n hx hb dX3_append_83 rfl (lv_at hl 0 rfl) ?_
  refine lv_dup hx hb dX3_append_84 rfl ?_
  refine r_gI C hS fl_X3_21 rfl k0 dX3_append_85 ?_
  refine lv_iload_n hx hb dX3_append_88 rfl (lv_at hl 1 rfl) ?_
  refine lv_iadd hx hb dX3_append_89 ?_
  obtain ⟨M_11, e_12, h⟩ := olt h
  refine r_pI C hS fp_X3_21 rfl k0 e_12 dX3_append_90 (fun H locs hS => ?_)
  refine lv_iconst (v := 1) hx hb dX3_append_93 (by decide) ?_
  exact r_zret C hS hr hlk h dX3_append_94
set_option maxHeartbeats 4000000 in
set_option maxRecDepth 100000 in
theorem c_X3_append (l : Launch) (G : Gl) (F : Nat) (a0 : Nat) (x1 : Int64) (x3 : Int32) (M : zM) (k0 : zK a0 = 3) (q : Int32 × zM) (h : Lin_append F a0 x1 x3 M = some q) : Met l yX3_append (wsM yX3_append cX3_append 6 (some .boolean)) (rmM 0 0) (Pre G M [.ref (G.1 + a0), .long x1, .int x3]) (PoI G q) 0 0 (gA G) := by
  refine r_met (own := RX3) rfl (by decide) (Nat.le_of_ble_eq_true rfl) ?_
  intro p e s m below meth c ls C hr hlk hS hl
  have hl : lv_has ls 6 [(0, .ref (G.1 + a0)), (1, .long x1), (3, .int x3)] := hl
  obtain ⟨hx, hb, -⟩ := id C
  unfold Lin_append at h
  refine lv_iload_n hx hb dX3_append_0 rfl (lv_at hl 2 rfl) ?_
  refine lv_iconst (v := 1) hx hb dX3_append_1 (by decide) ?_
  refine lv_icmp_lt (tgt := 16) hx hb dX3_append_2 (by decide) (fun c_1 => ?_) (fun c_1 => ?_)
  · replace h := ifp c_1 h
    refine lv_iconst (v := 0) hx hb dX3_append_16 (by decide) ?_
    exact r_zret C hS hr hlk h dX3_append_17
  · replace h := ifn c_1 h
    refine lv_aload_n hx hb dX3_append_5 rfl (lv_at hl 0 rfl) ?_
    refine r_gI C hS fl_X3_21 rfl k0 dX3_append_6 ?_
    refine lv_iload_n hx hb dX3_append_9 rfl (lv_at hl 2 rfl) ?_
    refine lv_iadd hx hb dX3_append_10 ?_
    refine lv_bipush (v := 60) hx hb dX3_append_11 (by decide) ?_
    refine lv_icmp_le (tgt := 18) hx hb dX3_append_13 (by decide) (fun c_2 => ?_) (fun c_2 => ?_)
    · replace h := ifp c_2 h
      refine lv_aload_n hx hb dX3_append_18 rfl (lv_at hl 0 rfl) ?_
      refine r_gI C hS fl_X3_21 rfl k0 dX3_append_19 ?_
      refine lv_bipush (v := 12) hx hb dX3_append_22 (by decide) ?_
      refine lv_idiv hx hb dX3_append_24 (by decide) ?_
      obtain ⟨x4_3, e_4, h⟩ := olt h
      refine r_nI e_4 ?_
      refine lv_istore (lv' := [(4, .int x4_3), (0, .ref (G.1 + a0)), (1, .long x1), (3, .int x3)]) hx hb dX3_append_25 hl (by decide) rfl (fun ls hl => ?_)
      refine lv_iconst (v := 5) hx hb dX3_append_27 (by decide) ?_
      refine lv_aload_n hx hb dX3_append_28 rfl (lv_at hl 1 rfl) ?_
      refine r_gI C hS fl_X3_21 rfl k0 dX3_append_29 ?_
      refine lv_bipush (v := 12) hx hb dX3_append_32 (by decide) ?_
      refine lv_irem hx hb dX3_append_34 (by decide) ?_
      refine lv_imul hx hb dX3_append_35 ?_
      obtain ⟨x5_5, e_6, h⟩ := olt h
      refine r_nI e_6 ?_
      refine lv_istore (lv' := [(5, .int x5_5), (4, .int x4_3), (0, .ref (G.1 + a0)), (1, .long x1), (3, .int x3)]) hx hb dX3_append_36 hl (by decide) rfl (fun ls hl => ?_)
      refine lv_aload_n hx hb dX3_append_38 rfl (lv_at hl 2 rfl) ?_
      refine r_gR C hS fl_X3_11 rfl k0 (zR_3_0 k0) dX3_append_39 ?_
      refine lv_iload hx hb dX3_append_42 (lv_at hl 1 rfl) ?_
      refine lv_dup2_11 hx hb dX3_append_44 rfl rfl ?_
      obtain ⟨b_7, h⟩ := ift h
      refine r_lald C hS (zKr_3_0 k0) (zNr_3_0 k0) b_7 dX3_append_45 ?_
      refine lv_lload_n hx hb dX3_append_46 rfl (lv_at hl 3 rfl) ?_
      refine lv_iload hx hb dX3_append_47 (lv_at hl 0 rfl) ?_
      refine lv_lushr (v := ur x1 x5_5) hx hb dX3_append_49 rfl ?_
      refine lv_lor hx hb dX3_append_50 ?_
      obtain ⟨M_8, e_9, h⟩ := olt h
      refine r_last C hS (zKr_3_0 k0) (zNr_3_0 k0) b_7 e_9 dX3_append_51 (fun H locs hS => ?_)
      refine lv_iload hx hb dX3_append_52 (lv_at hl 1 rfl) ?_
      refine lv_iconst (v := 1) hx hb dX3_append_54 (by decide) ?_
      refine lv_iadd hx hb dX3_append_55 ?_
      refine lv_iconst (v := 5) hx hb dX3_append_56 (by decide) ?_
      refine lv_icmp_ge (tgt := 83) hx hb dX3_append_57 (by decide) (fun c_10 => ?_) (fun c_10 => ?_)
      · replace h := ifp c_10 h
        exact w_Lin_append_J83 C hr hlk F a0 x3 M_8 k0 q h _ _ _ hS (lv_sub hl [2, 4] rfl)
      · replace h := ifn c_10 h
        refine lv_aload_n hx hb dX3_append_60 rfl (lv_at hl 2 rfl) ?_
        refine r_gR C hS fl_X3_11 rfl k0 (zR_3_0 k0) dX3_append_61 ?_
        refine lv_iload hx hb dX3_append_64 (lv_at hl 1 rfl) ?_
        refine lv_iconst (v := 1) hx hb dX3_append_66 (by decide) ?_
        refine lv_iadd hx hb dX3_append_67 ?_
        obtain ⟨d_13, e_14, h⟩ := olt h
        refine r_nI e_14 ?_
        refine lv_dup2_11 hx hb dX3_append_68 rfl rfl ?_
        obtain ⟨b_15, h⟩ := ift h
        refine r_lald C hS (zKr_3_0 k0) (zNr_3_0 k0) b_15 dX3_append_69 ?_
        refine lv_lload_n hx hb dX3_append_70 rfl (lv_at hl 3 rfl) ?_
        refine lv_bipush (v := 60) hx hb dX3_append_71 (by decide) ?_
        refine lv_iload hx hb dX3_append_73 (lv_at hl 0 rfl) ?_
        refine lv_isub hx hb dX3_append_75 ?_
        refine lv_lshl (v := sl x1 (60 - x5_5)) hx hb dX3_append_76 rfl ?_
        refine lv_ldc2 hx hb C.2.2.2.1 (C.2.2.2.2.1 _ tw_529) dX3_append_77 ?_
        refine lv_land hx hb dX3_append_80 ?_
        refine lv_lor hx hb dX3_append_81 ?_
        obtain ⟨M_16, e_17, h⟩ := olt h
        refine r_last C hS (zKr_3_0 k0) (zNr_3_0 k0) b_15 e_17 dX3_append_82 (fun H locs hS => ?_)
        exact w_Lin_append_J83 C hr hlk F a0 x3 M_16 k0 q h _ _ _ hS (lv_sub hl [2, 4] rfl)
    · replace h := ifn c_2 h
      refine lv_iconst (v := 0) hx hb dX3_append_16 (by decide) ?_
      exact r_zret C hS hr hlk h dX3_append_17
def E_Lin_appendRow_3 (G : Gl) (p : Program) (l : Launch) (e : Env) (s : State) (m : MethodId) (args : Array Value) (below : List Frame) (meth : Method) (c : Code) (Q : State → Prop) (a0 : Nat) (a1 : Nat) (x2 : Int32) (x3 : Int32) : Nat → (Int32 × zM) → Prop := fun k (x4, M) => match k with
  | 0 => ∀ (H : Heap) (locs : List Loc) (ls : Array Slot), St G M s H locs → lv_has ls 5 [(0, .ref (G.1 + a0)), (1, .ref (G.1 + a1)), (2, .int x2), (3, .int x3), (4, .int x4)] → W p l e (rmM 1 25) s m args below meth c H locs 0 0 Q (F0 m 3 ls [])
  | 1 => ∀ (H : Heap) (locs : List Loc) (ls : Array Slot), St G M s H locs → lv_has ls 5 [] → W p l e (rmM 1 25) s m args below meth c H locs 0 0 Q (F0 m 44 ls [])
  | 2 => ∀ (H : Heap) (locs : List Loc) (ls : Array Slot), St G M s H locs → lv_has ls 5 [] → W p l e (rmM 1 25) s m args below meth c H locs 0 0 Q (F0 m 52 ls [])
  | _ => True
set_option maxHeartbeats 4000000 in
set_option maxRecDepth 100000 in
theorem w_Lin_appendRow_B3 {G : Gl} {p : Program} {l : Launch} {e : Env} {s : State} {m : MethodId} {args : Array Value} {below : List Frame} {meth : Method} {c : Code} {Q : State → Prop} (C : Cx G cX3_appendRow 5 RX3 p s m args c) (a0 : Nat) (a1 : Nat) (x2 : Int32) (x3 : Int32) (k0 : zK a0 = 3) (k1 : zK a1 = 6) (F : Nat) : ∀ (σ : (Int32 × zM)) (q : Nat × (Int32 × zM)), Lin_appendRow_B3 F a0 a1 x2 x3 σ = some q → (E_Lin_appendRow_3 G p l e s m args below meth c Q a0 a1 x2 x3) q.1 q.2 → (E_Lin_appendRow_3 G p l e s m args below meth c Q a0 a1 x2 x3) 0 σ := by
  intro (x4, M) q h hE H locs ls hS hl
  obtain ⟨hx, hb, -⟩ := id C
  unfold Lin_appendRow_B3 at h
  try dsimp only at h
  refine lv_iload hx hb dX3_appendRow_3 (lv_at hl 4 rfl) ?_
  refine lv_iconst (v := 5) hx hb dX3_appendRow_5 (by decide) ?_
  refine lv_icmp_ge (tgt := 52) hx hb dX3_appendRow_6 (by decide) (fun c_1 => ?_) (fun c_1 => ?_)
  · replace h := ifp c_1 h
    obtain rfl := Option.some.inj h
    exact hE _ _ _ hS (lv_sub hl [] rfl)
  · replace h := ifn c_1 h
    refine lv_iload hx hb dX3_appendRow_9 (lv_at hl 4 rfl) ?_
    refine lv_bipush (v := 12) hx hb dX3_appendRow_11 (by decide) ?_
    refine lv_imul hx hb dX3_appendRow_13 ?_
    refine lv_iload_n hx hb dX3_appendRow_14 rfl (lv_at hl 3 rfl) ?_
    refine lv_icmp_ge (tgt := 52) hx hb dX3_appendRow_15 (by decide) (fun c_2 => ?_) (fun c_2 => ?_)
    · replace h := ifp c_2 h
      obtain rfl := Option.some.inj h
      exact hE _ _ _ hS (lv_sub hl [] rfl)
    · replace h := ifn c_2 h
      refine lv_aload_n hx hb dX3_appendRow_18 rfl (lv_at hl 0 rfl) ?_
      refine lv_aload_n hx hb dX3_appendRow_19 rfl (lv_at hl 1 rfl) ?_
      refine lv_iload_n hx hb dX3_appendRow_20 rfl (lv_at hl 2 rfl) ?_
      refine lv_iload hx hb dX3_appendRow_21 (lv_at hl 4 rfl) ?_
      obtain ⟨⟨r_3, M_4⟩, hq_5, h⟩ := ob h
      try dsimp only at h
      refine r_thenL hS (r_runV C hS hl.1 cv_X3_27 k1 (c_X6_signs l G F a1 x2 x4 M k1 _ hq_5) ⟨by decide, by decide⟩ rfl rfl (Nat.le_of_ble_eq_true rfl) ⟨Nat.zero_le _, Nat.zero_le _⟩ dX3_appendRow_23) (fun H locs hS => ?_)
      refine lv_iload_n hx hb dX3_appendRow_26 rfl (lv_at hl 3 rfl) ?_
      refine lv_iload hx hb dX3_appendRow_27 (lv_at hl 4 rfl) ?_
      refine lv_bipush (v := 12) hx hb dX3_appendRow_29 (by decide) ?_
      refine lv_imul hx hb dX3_appendRow_31 ?_
      refine lv_isub hx hb dX3_appendRow_32 ?_
      refine lv_bipush (v := 12) hx hb dX3_appendRow_33 (by decide) ?_
      refine r_jmn C hl.1 tw_560 (by decide) (Nat.le_of_ble_eq_true rfl) ⟨Nat.zero_le _, Nat.zero_le _⟩ dX3_appendRow_35 ?_
      obtain ⟨⟨r_6, M_7⟩, hq_8, h⟩ := ob h
      try dsimp only at h
      refine r_thenI hS (r_runV C hS hl.1 cv_X3_39 k0 (c_X3_append l G F a0 r_3 (jmn (x3 - (x4 * 12)) 12) M_4 k0 _ hq_8) ⟨by decide, by decide⟩ rfl rfl (Nat.le_of_ble_eq_true rfl) ⟨Nat.zero_le _, Nat.zero_le _⟩ dX3_appendRow_38) (fun H locs hS => ?_)
      refine lv_if_ne (tgt := 46) hx hb dX3_appendRow_41 (by decide) (fun c_9 => ?_) (fun c_9 => ?_)
      · replace h := ifn c_9 h
        obtain ⟨x4_10, e_11, h⟩ := olt h
        refine lv_iinc (v := x4_10) (lv' := [(4, .int x4_10), (0, .ref (G.1 + a0)), (1, .ref (G.1 + a1)), (2, .int x2), (3, .int x3)]) hx hb dX3_appendRow_46 hl (k := 4) rfl (by rw [e_11]; rfl) (by decide) rfl (fun ls hl => ?_)
        refine lv_goto (tgt := 3) hx hb dX3_appendRow_49 (by decide) ?_
        obtain rfl := Option.some.inj h
        exact hE _ _ _ hS (lv_sub hl [1, 2, 3, 4, 0] rfl)
      · replace h := ifp c_9 h
        obtain rfl := Option.some.inj h
        exact hE _ _ _ hS (lv_sub hl [] rfl)
set_option maxHeartbeats 4000000 in
set_option maxRecDepth 100000 in
theorem c_X3_appendRow (l : Launch) (G : Gl) (F : Nat) (a0 : Nat) (a1 : Nat) (x2 : Int32) (x3 : Int32) (M : zM) (k0 : zK a0 = 3) (k1 : zK a1 = 6) (q : Int32 × zM) (h : Lin_appendRow F a0 a1 x2 x3 M = some q) : Met l yX3_appendRow (wsM yX3_appendRow cX3_appendRow 5 (some .boolean)) (rmM 1 25) (Pre G M [.ref (G.1 + a0), .ref (G.1 + a1), .int x2, .int x3]) (PoI G q) 0 0 (gA G) := by
  refine r_met (own := RX3) rfl (by decide) (Nat.le_of_ble_eq_true rfl) ?_
  intro p e s m below meth c ls C hr hlk hS hl
  have hl : lv_has ls 5 [(0, .ref (G.1 + a0)), (1, .ref (G.1 + a1)), (2, .int x2), (3, .int x3)] := hl
  obtain ⟨hx, hb, -⟩ := id C
  unfold Lin_appendRow at h
  refine lv_iconst (v := 0) hx hb dX3_appendRow_0 (by decide) ?_
  refine lv_istore (lv' := [(4, .int 0), (0, .ref (G.1 + a0)), (1, .ref (G.1 + a1)), (2, .int x2), (3, .int x3)]) hx hb dX3_appendRow_1 hl (by decide) rfl (fun ls hl => ?_)
  obtain ⟨⟨k_14, x4_12, M_13⟩, hq_15, h⟩ := ob h
  try dsimp only at h
  refine loopW (E := (E_Lin_appendRow_3 G p l e s m _ below meth c _ a0 a1 x2 x3)) (w_Lin_appendRow_B3 C a0 a1 x2 x3 k0 k1 F) F _ _ hq_15 ?_ _ _ _ hS (lv_sub hl [1, 2, 3, 4, 0] rfl)
  by_cases ek_17 : k_14 = 1
  · replace h := ifp ek_17 h
    subst ek_17
    intro H locs ls hS hl
    refine lv_iconst (v := 0) hx hb dX3_appendRow_44 (by decide) ?_
    exact r_zret C hS hr hlk h dX3_appendRow_45
  · replace h := ifn ek_17 h
    by_cases ek_16 : k_14 = 2
    · replace h := ifp ek_16 h
      subst ek_16
      intro H locs ls hS hl
      refine lv_iconst (v := 1) hx hb dX3_appendRow_52 (by decide) ?_
      exact r_zret C hS hr hlk h dX3_appendRow_53
    · replace h := ifn ek_16 h
      cases h
def E_JArr_fill_I_5 (G : Gl) (p : Program) (l : Launch) (e : Env) (s : State) (m : MethodId) (args : Array Value) (below : List Frame) (meth : Method) (c : Code) (Q : State → Prop) (a0 : Nat) (x1 : Int32) (x3 : Int32) : Nat → (Int32 × zM) → Prop := fun k (x2, M) => match k with
  | 0 => ∀ (H : Heap) (locs : List Loc) (ls : Array Slot), St G M s H locs → lv_has ls 4 [(0, .ref (G.1 + a0)), (1, .int x1), (2, .int x2), (3, .int x3)] → W p l e (rmM 0 0) s m args below meth c H locs 0 0 Q (F0 m 5 ls [])
  | 1 => ∀ (H : Heap) (locs : List Loc) (ls : Array Slot), St G M s H locs → lv_has ls 4 [] → W p l e (rmM 0 0) s m args below meth c H locs 0 0 Q (F0 m 20 ls [])
  | _ => True
set_option maxHeartbeats 4000000 in
set_option maxRecDepth 100000 in
theorem w_JArr_fill_I_B5 {G : Gl} {p : Program} {l : Launch} {e : Env} {s : State} {m : MethodId} {args : Array Value} {below : List Frame} {meth : Method} {c : Code} {Q : State → Prop} (C : Cx G cJ7_fill_53178 4 RJ7 p s m args c) (a0 : Nat) (x1 : Int32) (x3 : Int32) (k0 : zK a0 = 12) (F : Nat) : ∀ (σ : (Int32 × zM)) (q : Nat × (Int32 × zM)), JArr_fill_I_B5 F a0 x1 x3 σ = some q → (E_JArr_fill_I_5 G p l e s m args below meth c Q a0 x1 x3) q.1 q.2 → (E_JArr_fill_I_5 G p l e s m args below meth c Q a0 x1 x3) 0 σ := by
  intro (x2, M) q h hE H locs ls hS hl
  obtain ⟨hx, hb, -⟩ := id C
  unfold JArr_fill_I_B5 at h
  try dsimp only at h
  refine lv_iload_n hx hb dJ7_fill_53178_5 rfl (lv_at hl 2 rfl) ?_
  refine lv_iload_n hx hb dJ7_fill_53178_6 rfl (lv_at hl 3 rfl) ?_
  refine lv_icmp_ge (tgt := 20) hx hb dJ7_fill_53178_7 (by decide) (fun c_3 => ?_) (fun c_3 => ?_)
  · replace h := ifp c_3 h
    obtain rfl := Option.some.inj h
    exact hE _ _ _ hS (lv_sub hl [] rfl)
  · replace h := ifn c_3 h
    refine lv_aload_n hx hb dJ7_fill_53178_10 rfl (lv_at hl 0 rfl) ?_
    refine lv_iload_n hx hb dJ7_fill_53178_11 rfl (lv_at hl 2 rfl) ?_
    refine lv_iload_n hx hb dJ7_fill_53178_12 rfl (lv_at hl 1 rfl) ?_
    obtain ⟨b_4, h⟩ := ift h
    obtain ⟨M_5, e_6, h⟩ := olt h
    refine r_iast C hS k0 rfl b_4 e_6 dJ7_fill_53178_13 (fun H locs hS => ?_)
    obtain ⟨x2_7, e_8, h⟩ := olt h
    refine lv_iinc (v := x2_7) (lv' := [(2, .int x2_7), (0, .ref (G.1 + a0)), (1, .int x1), (3, .int x3)]) hx hb dJ7_fill_53178_14 hl (k := 2) rfl (by rw [e_8]; rfl) (by decide) rfl (fun ls hl => ?_)
    refine lv_goto (tgt := 5) hx hb dJ7_fill_53178_17 (by decide) ?_
    obtain rfl := Option.some.inj h
    exact hE _ _ _ hS (lv_sub hl [1, 2, 0, 3] rfl)
set_option maxHeartbeats 4000000 in
set_option maxRecDepth 100000 in
theorem c_J7_fill_53178 (l : Launch) (G : Gl) (F : Nat) (a0 : Nat) (x1 : Int32) (M : zM) (k0 : zK a0 = 12) (q : Unit × zM) (h : JArr_fill_I F a0 x1 M = some q) : Met l yJ7_fill_53178 (wsM yJ7_fill_53178 cJ7_fill_53178 4 none) (rmM 0 0) (Pre G M [.ref (G.1 + a0), .int x1]) (PoV G q) 0 0 (gA G) := by
  refine r_met (own := RJ7) rfl (by decide) (Nat.le_of_ble_eq_true rfl) ?_
  intro p e s m below meth c ls C hr hlk hS hl
  have hl : lv_has ls 4 [(0, .ref (G.1 + a0)), (1, .int x1)] := hl
  obtain ⟨hx, hb, -⟩ := id C
  unfold JArr_fill_I at h
  refine lv_iconst (v := 0) hx hb dJ7_fill_53178_0 (by decide) ?_
  refine lv_istore_n (lv' := [(2, .int 0), (0, .ref (G.1 + a0)), (1, .int x1)]) hx hb dJ7_fill_53178_1 rfl hl (by decide) rfl (fun ls hl => ?_)
  refine lv_aload_n hx hb dJ7_fill_53178_2 rfl (lv_at hl 1 rfl) ?_
  refine r_alen C hS (v := Int32.ofNat (zN a0)) k0 ⟨by decide, by decide⟩ rfl (by rfl) dJ7_fill_53178_3 ?_
  obtain ⟨x3_1, e_2, h⟩ := olt h
  refine r_nI e_2 ?_
  refine lv_istore_n (lv' := [(3, .int x3_1), (2, .int 0), (0, .ref (G.1 + a0)), (1, .int x1)]) hx hb dJ7_fill_53178_4 rfl hl (by decide) rfl (fun ls hl => ?_)
  obtain ⟨⟨k_11, x2_9, M_10⟩, hq_12, h⟩ := ob h
  try dsimp only at h
  refine loopW (E := (E_JArr_fill_I_5 G p l e s m _ below meth c _ a0 x1 x3_1)) (w_JArr_fill_I_B5 C a0 x1 x3_1 k0 F) F _ _ hq_12 ?_ _ _ _ hS (lv_sub hl [2, 3, 1, 0] rfl)
  by_cases ek_13 : k_11 = 1
  · replace h := ifp ek_13 h
    subst ek_13
    intro H locs ls hS hl
    exact r_vret C hS hr hlk h dJ7_fill_53178_20
  · replace h := ifn ek_13 h
    cases h
set_option maxHeartbeats 4000000 in
set_option maxRecDepth 100000 in
theorem c_X9_restart (l : Launch) (G : Gl) (F : Nat) (a0 : Nat) (x1 : Int32) (M : zM) (k0 : zK a0 = 9) (q : Unit × zM) (h : Ton_restart F a0 x1 M = some q) : Met l yX9_restart (wsM yX9_restart cX9_restart 2 none) (rmM 1 23) (Pre G M [.ref (G.1 + a0), .int x1]) (PoV G q) 0 0 (gA G) := by
  refine r_met (own := RX9) rfl (by decide) (Nat.le_of_ble_eq_true rfl) ?_
  intro p e s m below meth c ls C hr hlk hS hl
  have hl : lv_has ls 2 [(0, .ref (G.1 + a0)), (1, .int x1)] := hl
  obtain ⟨hx, hb, -⟩ := id C
  unfold Ton_restart at h
  refine lv_aload_n hx hb dX9_restart_0 rfl (lv_at hl 0 rfl) ?_
  refine lv_iload_n hx hb dX9_restart_1 rfl (lv_at hl 1 rfl) ?_
  obtain ⟨M_1, e_2, h⟩ := olt h
  refine r_pI C hS fp_X9_42 rfl k0 e_2 dX9_restart_2 (fun H locs hS => ?_)
  refine lv_aload_n hx hb dX9_restart_5 rfl (lv_at hl 0 rfl) ?_
  refine lv_iconst (v := 0) hx hb dX9_restart_6 (by decide) ?_
  obtain ⟨M_3, e_4, h⟩ := olt h
  refine r_pI C hS fp_X9_46 rfl k0 e_4 dX9_restart_7 (fun H locs hS => ?_)
  refine lv_aload_n hx hb dX9_restart_10 rfl (lv_at hl 0 rfl) ?_
  refine r_gR C hS fl_X9_23 rfl k0 (zR_9_4 k0) dX9_restart_11 ?_
  refine lv_iconst (v := (-1)) hx hb dX9_restart_14 (by decide) ?_
  obtain ⟨⟨_r_5, M_6⟩, hq_7, h⟩ := ob h
  try dsimp only at h
  refine r_thenV hS (r_runS C hS hl.1 cs_X9_49 (c_J7_fill_53178 l G F (a0 + 5) (-1) M_3 (zKr_9_4 k0) _ hq_7) ⟨by decide, by decide⟩ rfl rfl (Nat.le_of_ble_eq_true rfl) ⟨Nat.zero_le _, Nat.zero_le _⟩ dX9_restart_15) (fun H locs hS => ?_)
  refine lv_aload_n hx hb dX9_restart_18 rfl (lv_at hl 0 rfl) ?_
  refine lv_iconst (v := 0) hx hb dX9_restart_19 (by decide) ?_
  obtain ⟨M_8, e_9, h⟩ := olt h
  refine r_put C hS fp_X9_55 rfl (by decide) (by decide) k0 e_9 dX9_restart_20 (fun H locs hS => ?_)
  refine lv_aload_n hx hb dX9_restart_23 rfl (lv_at hl 0 rfl) ?_
  refine lv_iconst (v := 0) hx hb dX9_restart_24 (by decide) ?_
  obtain ⟨M_10, e_11, h⟩ := olt h
  refine r_put C hS fp_X9_59 rfl (by decide) (by decide) k0 e_11 dX9_restart_25 (fun H locs hS => ?_)
  exact r_vret C hS hr hlk h dX9_restart_28
def E_Nam_choose_10 (G : Gl) (p : Program) (l : Launch) (e : Env) (s : State) (m : MethodId) (args : Array Value) (below : List Frame) (meth : Method) (c : Code) (Q : State → Prop) (x1 : Int32) : Nat → (Int32 × zM) → Prop := fun k (x2, M) => match k with
  | 0 => ∀ (H : Heap) (locs : List Loc) (ls : Array Slot), St G M s H locs → lv_has ls 3 [(0, .ref (G.1 + 44)), (1, .int x1), (2, .int x2)] → W p l e (rmM 0 0) s m args below meth c H locs 0 0 Q (F0 m 10 ls [])
  | 1 => ∀ (H : Heap) (locs : List Loc) (ls : Array Slot), St G M s H locs → lv_has ls 3 [] → W p l e (rmM 0 0) s m args below meth c H locs 0 0 Q (F0 m 43 ls [])
  | _ => True
set_option maxHeartbeats 4000000 in
set_option maxRecDepth 100000 in
theorem w_Nam_choose_B10 {G : Gl} {p : Program} {l : Launch} {e : Env} {s : State} {m : MethodId} {args : Array Value} {below : List Frame} {meth : Method} {c : Code} {Q : State → Prop} (C : Cx G cX4_choose 3 RX4 p s m args c) (x1 : Int32) (F : Nat) : ∀ (σ : (Int32 × zM)) (q : Nat × (Int32 × zM)), Nam_choose_B10 F x1 σ = some q → (E_Nam_choose_10 G p l e s m args below meth c Q x1) q.1 q.2 → (E_Nam_choose_10 G p l e s m args below meth c Q x1) 0 σ := by
  intro (x2, M) q h hE H locs ls hS hl
  obtain ⟨hx, hb, -⟩ := id C
  unfold Nam_choose_B10 at h
  try dsimp only at h
  refine lv_iload_n hx hb dX4_choose_10 rfl (lv_at hl 2 rfl) ?_
  refine lv_aload_n hx hb dX4_choose_11 rfl (lv_at hl 0 rfl) ?_
  refine r_gR C hS fl_X4_25 rfl rfl rfl dX4_choose_12 ?_
  refine r_gN C hS fn_X4_75 rfl rfl rfl dX4_choose_15 ?_
  refine lv_iload_n hx hb dX4_choose_18 rfl (lv_at hl 1 rfl) ?_
  obtain ⟨b_4, h⟩ := ift h
  refine r_iald C hS rfl rfl b_4 dX4_choose_19 ?_
  refine lv_icmp_gt (tgt := 43) hx hb dX4_choose_20 (by decide) (fun c_5 => ?_) (fun c_5 => ?_)
  · replace h := ifp c_5 h
    obtain rfl := Option.some.inj h
    exact hE _ _ _ hS (lv_sub hl [] rfl)
  · replace h := ifn c_5 h
    refine lv_iload_n hx hb dX4_choose_23 rfl (lv_at hl 2 rfl) ?_
    refine lv_sipush (v := 1000) hx hb dX4_choose_24 (by decide) ?_
    refine lv_icmp_ge (tgt := 43) hx hb dX4_choose_27 (by decide) (fun c_6 => ?_) (fun c_6 => ?_)
    · replace h := ifp c_6 h
      obtain rfl := Option.some.inj h
      exact hE _ _ _ hS (lv_sub hl [] rfl)
    · replace h := ifn c_6 h
      refine lv_aload_n hx hb dX4_choose_30 rfl (lv_at hl 0 rfl) ?_
      refine r_gR C hS fl_X4_21 rfl rfl rfl dX4_choose_31 ?_
      refine lv_iload_n hx hb dX4_choose_34 rfl (lv_at hl 2 rfl) ?_
      refine lv_iload_n hx hb dX4_choose_35 rfl (lv_at hl 1 rfl) ?_
      obtain ⟨b_7, h⟩ := ift h
      obtain ⟨M_8, e_9, h⟩ := olt h
      refine r_iast C hS rfl rfl b_7 e_9 dX4_choose_36 (fun H locs hS => ?_)
      obtain ⟨x2_10, e_11, h⟩ := olt h
      refine lv_iinc (v := x2_10) (lv' := [(2, .int x2_10), (0, .ref (G.1 + 44)), (1, .int x1)]) hx hb dX4_choose_37 hl (k := 2) rfl (by rw [e_11]; rfl) (by decide) rfl (fun ls hl => ?_)
      refine lv_goto (tgt := 10) hx hb dX4_choose_40 (by decide) ?_
      obtain rfl := Option.some.inj h
      exact hE _ _ _ hS (lv_sub hl [1, 2, 0] rfl)
set_option maxHeartbeats 4000000 in
set_option maxRecDepth 100000 in
theorem c_X4_choose (l : Launch) (G : Gl) (F : Nat) (x1 : Int32) (M : zM)  (q : Unit × zM) (h : Nam_choose F x1 M = some q) : Met l yX4_choose (wsM yX4_choose cX4_choose 3 none) (rmM 0 0) (Pre G M [.ref (G.1 + 44), .int x1]) (PoV G q) 0 0 (gA G) := by
  refine r_met (own := RX4) rfl (by decide) (Nat.le_of_ble_eq_true rfl) ?_
  intro p e s m below meth c ls C hr hlk hS hl
  have hl : lv_has ls 3 [(0, .ref (G.1 + 44)), (1, .int x1)] := hl
  obtain ⟨hx, hb, -⟩ := id C
  unfold Nam_choose at h
  refine lv_aload_n hx hb dX4_choose_0 rfl (lv_at hl 0 rfl) ?_
  refine r_gR C hS fl_X4_25 rfl rfl rfl dX4_choose_1 ?_
  refine r_gN C hS fn_X4_72 rfl rfl rfl dX4_choose_4 ?_
  refine lv_iload_n hx hb dX4_choose_7 rfl (lv_at hl 1 rfl) ?_
  obtain ⟨b_1, h⟩ := ift h
  refine r_iald C hS rfl rfl b_1 dX4_choose_8 ?_
  obtain ⟨x2_2, e_3, h⟩ := olt h
  refine r_nI e_3 ?_
  refine lv_istore_n (lv' := [(2, .int x2_2), (0, .ref (G.1 + 44)), (1, .int x1)]) hx hb dX4_choose_9 rfl hl (by decide) rfl (fun ls hl => ?_)
  obtain ⟨⟨k_14, x2_12, M_13⟩, hq_15, h⟩ := ob h
  try dsimp only at h
  refine loopW (E := (E_Nam_choose_10 G p l e s m _ below meth c _ x1)) (w_Nam_choose_B10 C x1 F) F _ _ hq_15 ?_ _ _ _ hS (lv_sub hl [1, 2, 0] rfl)
  by_cases ek_16 : k_14 = 1
  · replace h := ifp ek_16 h
    subst ek_16
    intro H locs ls hS hl
    exact r_vret C hS hr hlk h dX4_choose_43
  · replace h := ifn ek_16 h
    cases h
def E_Nam_chooseClauses_18 (G : Gl) (p : Program) (l : Launch) (e : Env) (s : State) (m : MethodId) (args : Array Value) (below : List Frame) (meth : Method) (c : Code) (Q : State → Prop)  : Nat → (Int32 × zM) → Prop := fun k (x1, M) => match k with
  | 0 => ∀ (H : Heap) (locs : List Loc) (ls : Array Slot), St G M s H locs → lv_has ls 2 [(0, .ref (G.1 + 44)), (1, .int x1)] → W p l e (rmM 1 23) s m args below meth c H locs 0 0 Q (F0 m 18 ls [])
  | 1 => ∀ (H : Heap) (locs : List Loc) (ls : Array Slot), St G M s H locs → lv_has ls 2 [(0, .ref (G.1 + 44))] → W p l e (rmM 1 23) s m args below meth c H locs 0 0 Q (F0 m 44 ls [])
  | _ => True
set_option maxHeartbeats 4000000 in
set_option maxRecDepth 100000 in
theorem w_Nam_chooseClauses_B18 {G : Gl} {p : Program} {l : Launch} {e : Env} {s : State} {m : MethodId} {args : Array Value} {below : List Frame} {meth : Method} {c : Code} {Q : State → Prop} (C : Cx G cX4_chooseClauses 2 RX4 p s m args c)  (F : Nat) : ∀ (σ : (Int32 × zM)) (q : Nat × (Int32 × zM)), Nam_chooseClauses_B18 F  σ = some q → (E_Nam_chooseClauses_18 G p l e s m args below meth c Q ) q.1 q.2 → (E_Nam_chooseClauses_18 G p l e s m args below meth c Q ) 0 σ := by
  intro (x1, M) q h hE H locs ls hS hl
  obtain ⟨hx, hb, -⟩ := id C
  unfold Nam_chooseClauses_B18 at h
  try dsimp only at h
  refine lv_iload_n hx hb dX4_chooseClauses_18 rfl (lv_at hl 1 rfl) ?_
  refine lv_if_lt (tgt := 44) hx hb dX4_chooseClauses_19 (by decide) (fun c_9 => ?_) (fun c_9 => ?_)
  · replace h := ifp c_9 h
    obtain rfl := Option.some.inj h
    exact hE _ _ _ hS (lv_sub hl [0] rfl)
  · replace h := ifn c_9 h
    refine lv_aload_n hx hb dX4_chooseClauses_22 rfl (lv_at hl 0 rfl) ?_
    refine r_gR C hS fl_X4_25 rfl rfl rfl dX4_chooseClauses_23 ?_
    refine lv_iload_n hx hb dX4_chooseClauses_26 rfl (lv_at hl 1 rfl) ?_
    obtain ⟨⟨r_10, M_11⟩, hq_12, h⟩ := ob h
    try dsimp only at h
    refine r_thenI hS (r_runV C hS hl.1 cv_X4_66 rfl (c_X0_isWord l G F x1 M  _ hq_12) ⟨by decide, by decide⟩ rfl rfl (Nat.le_of_ble_eq_true rfl) ⟨Nat.zero_le _, Nat.zero_le _⟩ dX4_chooseClauses_27) (fun H locs hS => ?_)
    refine lv_if_ne (tgt := 38) hx hb dX4_chooseClauses_30 (by decide) (fun c_13 => ?_) (fun c_13 => ?_)
    · replace h := ifn c_13 h
      obtain ⟨x1_14, e_15, h⟩ := olt h
      refine lv_iinc (v := x1_14) (lv' := [(1, .int x1_14), (0, .ref (G.1 + 44))]) hx hb dX4_chooseClauses_38 hl (k := 1) rfl (by rw [e_15]; rfl) (by decide) rfl (fun ls hl => ?_)
      refine lv_goto (tgt := 18) hx hb dX4_chooseClauses_41 (by decide) ?_
      obtain rfl := Option.some.inj h
      exact hE _ _ _ hS (lv_sub hl [1, 0] rfl)
    · replace h := ifp c_13 h
      refine lv_aload_n hx hb dX4_chooseClauses_33 rfl (lv_at hl 0 rfl) ?_
      refine lv_iload_n hx hb dX4_chooseClauses_34 rfl (lv_at hl 1 rfl) ?_
      obtain ⟨⟨_r_16, M_17⟩, hq_18, h⟩ := ob h
      try dsimp only at h
      refine r_thenV hS (r_runV C hS hl.1 cv_X4_69 rfl (c_X4_choose l G F x1 M_11  _ hq_18) ⟨by decide, by decide⟩ rfl rfl (Nat.le_of_ble_eq_true rfl) ⟨Nat.zero_le _, Nat.zero_le _⟩ dX4_chooseClauses_35) (fun H locs hS => ?_)
      obtain ⟨x1_19, e_20, h⟩ := olt h
      refine lv_iinc (v := x1_19) (lv' := [(1, .int x1_19), (0, .ref (G.1 + 44))]) hx hb dX4_chooseClauses_38 hl (k := 1) rfl (by rw [e_20]; rfl) (by decide) rfl (fun ls hl => ?_)
      refine lv_goto (tgt := 18) hx hb dX4_chooseClauses_41 (by decide) ?_
      obtain rfl := Option.some.inj h
      exact hE _ _ _ hS (lv_sub hl [1, 0] rfl)
def E_Nam_chooseClauses_46 (G : Gl) (p : Program) (l : Launch) (e : Env) (s : State) (m : MethodId) (args : Array Value) (below : List Frame) (meth : Method) (c : Code) (Q : State → Prop)  : Nat → (Int32 × zM) → Prop := fun k (x1, M) => match k with
  | 0 => ∀ (H : Heap) (locs : List Loc) (ls : Array Slot), St G M s H locs → lv_has ls 2 [(0, .ref (G.1 + 44)), (1, .int x1)] → W p l e (rmM 1 23) s m args below meth c H locs 0 0 Q (F0 m 46 ls [])
  | 1 => ∀ (H : Heap) (locs : List Loc) (ls : Array Slot), St G M s H locs → lv_has ls 2 [] → W p l e (rmM 1 23) s m args below meth c H locs 0 0 Q (F0 m 79 ls [])
  | _ => True
set_option maxHeartbeats 4000000 in
set_option maxRecDepth 100000 in
theorem w_Nam_chooseClauses_B46 {G : Gl} {p : Program} {l : Launch} {e : Env} {s : State} {m : MethodId} {args : Array Value} {below : List Frame} {meth : Method} {c : Code} {Q : State → Prop} (C : Cx G cX4_chooseClauses 2 RX4 p s m args c)  (F : Nat) : ∀ (σ : (Int32 × zM)) (q : Nat × (Int32 × zM)), Nam_chooseClauses_B46 F  σ = some q → (E_Nam_chooseClauses_46 G p l e s m args below meth c Q ) q.1 q.2 → (E_Nam_chooseClauses_46 G p l e s m args below meth c Q ) 0 σ := by
  intro (x1, M) q h hE H locs ls hS hl
  obtain ⟨hx, hb, -⟩ := id C
  unfold Nam_chooseClauses_B46 at h
  try dsimp only at h
  refine lv_iload_n hx hb dX4_chooseClauses_46 rfl (lv_at hl 1 rfl) ?_
  refine lv_aload_n hx hb dX4_chooseClauses_47 rfl (lv_at hl 0 rfl) ?_
  refine r_gR C hS fl_X4_25 rfl rfl rfl dX4_chooseClauses_48 ?_
  obtain ⟨⟨r_25, M_26⟩, hq_27, h⟩ := ob h
  try dsimp only at h
  refine r_thenI hS (r_runV C hS hl.1 cv_X4_29 rfl (c_X0_count l G F  M  _ hq_27) ⟨by decide, by decide⟩ rfl rfl (Nat.le_of_ble_eq_true rfl) ⟨Nat.zero_le _, Nat.zero_le _⟩ dX4_chooseClauses_51) (fun H locs hS => ?_)
  refine lv_icmp_ge (tgt := 79) hx hb dX4_chooseClauses_54 (by decide) (fun c_28 => ?_) (fun c_28 => ?_)
  · replace h := ifp c_28 h
    obtain rfl := Option.some.inj h
    exact hE _ _ _ hS (lv_sub hl [] rfl)
  · replace h := ifn c_28 h
    refine lv_aload_n hx hb dX4_chooseClauses_57 rfl (lv_at hl 0 rfl) ?_
    refine r_gR C hS fl_X4_25 rfl rfl rfl dX4_chooseClauses_58 ?_
    refine lv_iload_n hx hb dX4_chooseClauses_61 rfl (lv_at hl 1 rfl) ?_
    obtain ⟨⟨r_29, M_30⟩, hq_31, h⟩ := ob h
    try dsimp only at h
    refine r_thenI hS (r_runV C hS hl.1 cv_X4_66 rfl (c_X0_isWord l G F x1 M_26  _ hq_31) ⟨by decide, by decide⟩ rfl rfl (Nat.le_of_ble_eq_true rfl) ⟨Nat.zero_le _, Nat.zero_le _⟩ dX4_chooseClauses_62) (fun H locs hS => ?_)
    refine lv_if_eq (tgt := 73) hx hb dX4_chooseClauses_65 (by decide) (fun c_32 => ?_) (fun c_32 => ?_)
    · replace h := ifp c_32 h
      obtain ⟨x1_33, e_34, h⟩ := olt h
      refine lv_iinc (v := x1_33) (lv' := [(1, .int x1_33), (0, .ref (G.1 + 44))]) hx hb dX4_chooseClauses_73 hl (k := 1) rfl (by rw [e_34]; rfl) (by decide) rfl (fun ls hl => ?_)
      refine lv_goto (tgt := 46) hx hb dX4_chooseClauses_76 (by decide) ?_
      obtain rfl := Option.some.inj h
      exact hE _ _ _ hS (lv_sub hl [1, 0] rfl)
    · replace h := ifn c_32 h
      refine lv_aload_n hx hb dX4_chooseClauses_68 rfl (lv_at hl 0 rfl) ?_
      refine lv_iload_n hx hb dX4_chooseClauses_69 rfl (lv_at hl 1 rfl) ?_
      obtain ⟨⟨_r_35, M_36⟩, hq_37, h⟩ := ob h
      try dsimp only at h
      refine r_thenV hS (r_runV C hS hl.1 cv_X4_69 rfl (c_X4_choose l G F x1 M_30  _ hq_37) ⟨by decide, by decide⟩ rfl rfl (Nat.le_of_ble_eq_true rfl) ⟨Nat.zero_le _, Nat.zero_le _⟩ dX4_chooseClauses_70) (fun H locs hS => ?_)
      obtain ⟨x1_38, e_39, h⟩ := olt h
      refine lv_iinc (v := x1_38) (lv' := [(1, .int x1_38), (0, .ref (G.1 + 44))]) hx hb dX4_chooseClauses_73 hl (k := 1) rfl (by rw [e_39]; rfl) (by decide) rfl (fun ls hl => ?_)
      refine lv_goto (tgt := 46) hx hb dX4_chooseClauses_76 (by decide) ?_
      obtain rfl := Option.some.inj h
      exact hE _ _ _ hS (lv_sub hl [1, 0] rfl)
set_option maxHeartbeats 4000000 in
set_option maxRecDepth 100000 in
theorem c_X4_chooseClauses (l : Launch) (G : Gl) (F : Nat)  (M : zM)  (q : Unit × zM) (h : Nam_chooseClauses F  M = some q) : Met l yX4_chooseClauses (wsM yX4_chooseClauses cX4_chooseClauses 2 none) (rmM 1 23) (Pre G M [.ref (G.1 + 44)]) (PoV G q) 0 0 (gA G) := by
  refine r_met (own := RX4) rfl (by decide) (Nat.le_of_ble_eq_true rfl) ?_
  intro p e s m below meth c ls C hr hlk hS hl
  have hl : lv_has ls 2 [(0, .ref (G.1 + 44))] := hl
  obtain ⟨hx, hb, -⟩ := id C
  unfold Nam_chooseClauses at h
  refine lv_aload_n hx hb dX4_chooseClauses_0 rfl (lv_at hl 0 rfl) ?_
  refine r_gR C hS fl_X4_21 rfl rfl rfl dX4_chooseClauses_1 ?_
  refine lv_iconst (v := (-1)) hx hb dX4_chooseClauses_4 (by decide) ?_
  obtain ⟨⟨_r_1, M_2⟩, hq_3, h⟩ := ob h
  try dsimp only at h
  refine r_thenV hS (r_runS C hS hl.1 cs_X4_60 (c_J7_fill_53178 l G F 49 (-1) M rfl _ hq_3) ⟨by decide, by decide⟩ rfl rfl (Nat.le_of_ble_eq_true rfl) ⟨Nat.zero_le _, Nat.zero_le _⟩ dX4_chooseClauses_5) (fun H locs hS => ?_)
  refine lv_aload_n hx hb dX4_chooseClauses_8 rfl (lv_at hl 0 rfl) ?_
  refine r_gR C hS fl_X4_25 rfl rfl rfl dX4_chooseClauses_9 ?_
  obtain ⟨⟨r_4, M_5⟩, hq_6, h⟩ := ob h
  try dsimp only at h
  refine r_thenI hS (r_runV C hS hl.1 cv_X4_29 rfl (c_X0_count l G F  M_2  _ hq_6) ⟨by decide, by decide⟩ rfl rfl (Nat.le_of_ble_eq_true rfl) ⟨Nat.zero_le _, Nat.zero_le _⟩ dX4_chooseClauses_12) (fun H locs hS => ?_)
  refine lv_iconst (v := 1) hx hb dX4_chooseClauses_15 (by decide) ?_
  refine lv_isub hx hb dX4_chooseClauses_16 ?_
  obtain ⟨x1_7, e_8, h⟩ := olt h
  refine r_nI e_8 ?_
  refine lv_istore_n (lv' := [(1, .int x1_7), (0, .ref (G.1 + 44))]) hx hb dX4_chooseClauses_17 rfl hl (by decide) rfl (fun ls hl => ?_)
  obtain ⟨⟨k_23, x1_21, M_22⟩, hq_24, h⟩ := ob h
  try dsimp only at h
  refine loopW (E := (E_Nam_chooseClauses_18 G p l e s m _ below meth c _ )) (w_Nam_chooseClauses_B18 C  F) F _ _ hq_24 ?_ _ _ _ hS (lv_sub hl [1, 0] rfl)
  by_cases ek_45 : k_23 = 1
  · replace h := ifp ek_45 h
    subst ek_45
    intro H locs ls hS hl
    refine lv_iconst (v := 0) hx hb dX4_chooseClauses_44 (by decide) ?_
    refine lv_istore_n (lv' := [(1, .int 0), (0, .ref (G.1 + 44))]) hx hb dX4_chooseClauses_45 rfl hl (by decide) rfl (fun ls hl => ?_)
    obtain ⟨⟨k_42, x1_40, M_41⟩, hq_43, h⟩ := ob h
    try dsimp only at h
    refine loopW (E := (E_Nam_chooseClauses_46 G p l e s m _ below meth c _ )) (w_Nam_chooseClauses_B46 C  F) F _ _ hq_43 ?_ _ _ _ hS (lv_sub hl [1, 0] rfl)
    by_cases ek_44 : k_42 = 1
    · replace h := ifp ek_44 h
      subst ek_44
      intro H locs ls hS hl
      exact r_vret C hS hr hlk h dX4_chooseClauses_79
    · replace h := ifn ek_44 h
      cases h
  · replace h := ifn ek_45 h
    cases h
set_option maxHeartbeats 4000000 in
set_option maxRecDepth 100000 in
theorem c_X9_has (l : Launch) (G : Gl) (F : Nat) (a0 : Nat) (x1 : Int32) (M : zM) (k0 : zK a0 = 9) (q : Int32 × zM) (h : Ton_has F a0 x1 M = some q) : Met l yX9_has (wsM yX9_has cX9_has 2 (some .boolean)) (rmM 0 0) (Pre G M [.ref (G.1 + a0), .int x1]) (PoI G q) 0 0 (gA G) := by
  refine r_met (own := RX9) rfl (by decide) (Nat.le_of_ble_eq_true rfl) ?_
  intro p e s m below meth c ls C hr hlk hS hl
  have hl : lv_has ls 2 [(0, .ref (G.1 + a0)), (1, .int x1)] := hl
  obtain ⟨hx, hb, -⟩ := id C
  unfold Ton_has at h
  refine lv_iload_n hx hb dX9_has_0 rfl (lv_at hl 1 rfl) ?_
  refine lv_if_lt (tgt := 27) hx hb dX9_has_1 (by decide) (fun c_1 => ?_) (fun c_1 => ?_)
  · replace h := ifp c_1 h
    refine lv_iconst (v := 0) hx hb dX9_has_27 (by decide) ?_
    exact r_zret C hS hr hlk h dX9_has_28
  · replace h := ifn c_1 h
    refine lv_iload_n hx hb dX9_has_4 rfl (lv_at hl 1 rfl) ?_
    refine lv_aload_n hx hb dX9_has_5 rfl (lv_at hl 0 rfl) ?_
    refine r_gR C hS fl_X9_23 rfl k0 (zR_9_4 k0) dX9_has_6 ?_
    refine r_alen C hS (v := 1000) (zKr_9_4 k0) ⟨by decide, by decide⟩ (zNr_9_4 k0) (by decide) dX9_has_9 ?_
    refine lv_icmp_ge (tgt := 27) hx hb dX9_has_10 (by decide) (fun c_2 => ?_) (fun c_2 => ?_)
    · replace h := ifp c_2 h
      refine lv_iconst (v := 0) hx hb dX9_has_27 (by decide) ?_
      exact r_zret C hS hr hlk h dX9_has_28
    · replace h := ifn c_2 h
      refine lv_aload_n hx hb dX9_has_13 rfl (lv_at hl 0 rfl) ?_
      refine r_gR C hS fl_X9_23 rfl k0 (zR_9_4 k0) dX9_has_14 ?_
      refine lv_iload_n hx hb dX9_has_17 rfl (lv_at hl 1 rfl) ?_
      obtain ⟨b_3, h⟩ := ift h
      refine r_iald C hS (zKr_9_4 k0) (zNr_9_4 k0) b_3 dX9_has_18 ?_
      refine lv_iconst (v := (-1)) hx hb dX9_has_19 (by decide) ?_
      refine lv_icmp_eq (tgt := 27) hx hb dX9_has_20 (by decide) (fun c_4 => ?_) (fun c_4 => ?_)
      · replace h := ifp c_4 h
        refine lv_iconst (v := 0) hx hb dX9_has_27 (by decide) ?_
        exact r_zret C hS hr hlk h dX9_has_28
      · replace h := ifn c_4 h
        refine lv_iconst (v := 1) hx hb dX9_has_23 (by decide) ?_
        refine lv_goto (tgt := 28) hx hb dX9_has_24 (by decide) ?_
        exact r_zret C hS hr hlk h dX9_has_28
set_option maxHeartbeats 4000000 in
set_option maxRecDepth 100000 in
theorem c_X4_addGap (l : Launch) (G : Gl) (F : Nat)  (M : zM)  (q : Int32 × zM) (h : Nam_addGap F  M = some q) : Met l yX4_addGap (wsM yX4_addGap cX4_addGap 1 (some .boolean)) (rmM 1 25) (Pre G M [.ref (G.1 + 44)]) (PoI G q) 0 0 (gA G) := by
  refine r_met (own := RX4) rfl (by decide) (Nat.le_of_ble_eq_true rfl) ?_
  intro p e s m below meth c ls C hr hlk hS hl
  have hl : lv_has ls 1 [(0, .ref (G.1 + 44))] := hl
  obtain ⟨hx, hb, -⟩ := id C
  unfold Nam_addGap at h
  refine lv_aload_n hx hb dX4_addGap_0 rfl (lv_at hl 0 rfl) ?_
  refine r_gR C hS fl_X4_12 rfl rfl rfl dX4_addGap_1 ?_
  obtain ⟨⟨r_1, M_2⟩, hq_3, h⟩ := ob h
  try dsimp only at h
  refine r_thenI hS (r_runV C hS hl.1 cv_X4_137 rfl (c_X3_size l G F 45 M rfl _ hq_3) ⟨by decide, by decide⟩ rfl rfl (Nat.le_of_ble_eq_true rfl) ⟨Nat.zero_le _, Nat.zero_le _⟩ dX4_addGap_4) (fun H locs hS => ?_)
  refine lv_if_eq (tgt := 26) hx hb dX4_addGap_7 (by decide) (fun c_4 => ?_) (fun c_4 => ?_)
  · replace h := ifp c_4 h
    refine lv_iconst (v := 1) hx hb dX4_addGap_26 (by decide) ?_
    refine lv_goto (tgt := 31) hx hb dX4_addGap_27 (by decide) ?_
    exact r_zret C hS hr hlk h dX4_addGap_31
  · replace h := ifn c_4 h
    refine lv_aload_n hx hb dX4_addGap_10 rfl (lv_at hl 0 rfl) ?_
    refine r_gR C hS fl_X4_12 rfl rfl rfl dX4_addGap_11 ?_
    refine lv_bipush (v := 32) hx hb dX4_addGap_14 (by decide) ?_
    obtain ⟨⟨r_5, M_6⟩, hq_7, h⟩ := ob h
    try dsimp only at h
    refine r_thenL hS (r_runS C hS hl.1 cs_X4_140 (c_X3_signOf l G F 32 M_2  _ hq_7) ⟨by decide, by decide⟩ rfl rfl (Nat.le_of_ble_eq_true rfl) ⟨Nat.zero_le _, Nat.zero_le _⟩ dX4_addGap_16) (fun H locs hS => ?_)
    refine lv_iconst (v := 1) hx hb dX4_addGap_19 (by decide) ?_
    obtain ⟨⟨r_8, M_9⟩, hq_10, h⟩ := ob h
    try dsimp only at h
    refine r_thenI hS (r_runV C hS hl.1 cv_X4_117 rfl (c_X3_append l G F 45 r_5 1 M_6 rfl _ hq_10) ⟨by decide, by decide⟩ rfl rfl (Nat.le_of_ble_eq_true rfl) ⟨Nat.zero_le _, Nat.zero_le _⟩ dX4_addGap_20) (fun H locs hS => ?_)
    refine lv_if_eq (tgt := 30) hx hb dX4_addGap_23 (by decide) (fun c_11 => ?_) (fun c_11 => ?_)
    · replace h := ifp c_11 h
      refine lv_iconst (v := 0) hx hb dX4_addGap_30 (by decide) ?_
      exact r_zret C hS hr hlk h dX4_addGap_31
    · replace h := ifn c_11 h
      refine lv_iconst (v := 1) hx hb dX4_addGap_26 (by decide) ?_
      refine lv_goto (tgt := 31) hx hb dX4_addGap_27 (by decide) ?_
      exact r_zret C hS hr hlk h dX4_addGap_31
set_option maxHeartbeats 4000000 in
set_option maxRecDepth 100000 in
theorem c_X4_addLetters (l : Launch) (G : Gl) (F : Nat) (x1 : Int64) (x3 : Int32) (M : zM)  (q : Int32 × zM) (h : Nam_addLetters F x1 x3 M = some q) : Met l yX4_addLetters (wsM yX4_addLetters cX4_addLetters 4 (some .boolean)) (rmM 2 45) (Pre G M [.ref (G.1 + 44), .long x1, .int x3]) (PoI G q) 0 0 (gA G) := by
  refine r_met (own := RX4) rfl (by decide) (Nat.le_of_ble_eq_true rfl) ?_
  intro p e s m below meth c ls C hr hlk hS hl
  have hl : lv_has ls 4 [(0, .ref (G.1 + 44)), (1, .long x1), (3, .int x3)] := hl
  obtain ⟨hx, hb, -⟩ := id C
  unfold Nam_addLetters at h
  refine lv_aload_n hx hb dX4_addLetters_0 rfl (lv_at hl 0 rfl) ?_
  obtain ⟨⟨r_1, M_2⟩, hq_3, h⟩ := ob h
  try dsimp only at h
  refine r_thenI hS (r_runV C hS hl.1 cv_X4_113 rfl (c_X4_addGap l G F  M  _ hq_3) ⟨by decide, by decide⟩ rfl rfl (Nat.le_of_ble_eq_true rfl) ⟨Nat.zero_le _, Nat.zero_le _⟩ dX4_addLetters_1) (fun H locs hS => ?_)
  refine lv_if_eq (tgt := 35) hx hb dX4_addLetters_4 (by decide) (fun c_4 => ?_) (fun c_4 => ?_)
  · replace h := ifp c_4 h
    refine lv_iconst (v := 0) hx hb dX4_addLetters_35 (by decide) ?_
    exact r_zret C hS hr hlk h dX4_addLetters_36
  · replace h := ifn c_4 h
    refine lv_aload_n hx hb dX4_addLetters_7 rfl (lv_at hl 0 rfl) ?_
    refine r_gR C hS fl_X4_12 rfl rfl rfl dX4_addLetters_8 ?_
    refine lv_lload_n hx hb dX4_addLetters_11 rfl (lv_at hl 1 rfl) ?_
    refine lv_iload_n hx hb dX4_addLetters_12 rfl (lv_at hl 2 rfl) ?_
    obtain ⟨⟨r_5, M_6⟩, hq_7, h⟩ := ob h
    try dsimp only at h
    refine r_thenI hS (r_runV C hS hl.1 cv_X4_117 rfl (c_X3_append l G F 45 x1 x3 M_2 rfl _ hq_7) ⟨by decide, by decide⟩ rfl rfl (Nat.le_of_ble_eq_true rfl) ⟨Nat.zero_le _, Nat.zero_le _⟩ dX4_addLetters_13) (fun H locs hS => ?_)
    refine lv_if_eq (tgt := 35) hx hb dX4_addLetters_16 (by decide) (fun c_8 => ?_) (fun c_8 => ?_)
    · replace h := ifp c_8 h
      refine lv_iconst (v := 0) hx hb dX4_addLetters_35 (by decide) ?_
      exact r_zret C hS hr hlk h dX4_addLetters_36
    · replace h := ifn c_8 h
      refine lv_aload_n hx hb dX4_addLetters_19 rfl (lv_at hl 0 rfl) ?_
      refine r_gR C hS fl_X4_18 rfl rfl rfl dX4_addLetters_20 ?_
      refine lv_lload_n hx hb dX4_addLetters_23 rfl (lv_at hl 1 rfl) ?_
      refine lv_iload_n hx hb dX4_addLetters_24 rfl (lv_at hl 2 rfl) ?_
      obtain ⟨⟨r_9, M_10⟩, hq_11, h⟩ := ob h
      try dsimp only at h
      refine r_thenI hS (r_runV C hS hl.1 cv_X4_117 rfl (c_X3_append l G F 47 x1 x3 M_6 rfl _ hq_11) ⟨by decide, by decide⟩ rfl rfl (Nat.le_of_ble_eq_true rfl) ⟨Nat.zero_le _, Nat.zero_le _⟩ dX4_addLetters_25) (fun H locs hS => ?_)
      refine lv_if_eq (tgt := 35) hx hb dX4_addLetters_28 (by decide) (fun c_12 => ?_) (fun c_12 => ?_)
      · replace h := ifp c_12 h
        refine lv_iconst (v := 0) hx hb dX4_addLetters_35 (by decide) ?_
        exact r_zret C hS hr hlk h dX4_addLetters_36
      · replace h := ifn c_12 h
        refine lv_iconst (v := 1) hx hb dX4_addLetters_31 (by decide) ?_
        refine lv_goto (tgt := 36) hx hb dX4_addLetters_32 (by decide) ?_
        exact r_zret C hS hr hlk h dX4_addLetters_36
set_option maxHeartbeats 4000000 in
set_option maxRecDepth 100000 in
theorem c_X4_asked (l : Launch) (G : Gl) (F : Nat) (x0 : Int32) (x1 : Int32) (x2 : Int32) (x3 : Int32) (M : zM)  (q : Int32 × zM) (h : Nam_asked F x0 x1 x2 x3 M = some q) : Met l yX4_asked (wsM yX4_asked cX4_asked 4 (some .int)) (rmM 0 0) (Pre G M [.int x0, .int x1, .int x2, .int x3]) (PoI G q) 0 0 (gA G) := by
  refine r_met (own := RX4) rfl (by decide) (Nat.le_of_ble_eq_true rfl) ?_
  intro p e s m below meth c ls C hr hlk hS hl
  have hl : lv_has ls 4 [(0, .int x0), (1, .int x1), (2, .int x2), (3, .int x3)] := hl
  obtain ⟨hx, hb, -⟩ := id C
  unfold Nam_asked at h
  refine lv_iload_n hx hb dX4_asked_0 rfl (lv_at hl 0 rfl) ?_
  by_cases c_1 : x0 = 99
  · replace h := ifp c_1 h
    refine r_nI c_1.symm ?_
    refine lv_lookup (tgt := 70) (off := 69) hx hb dX4_asked_1 (by decide) (by decide) (by decide) ?_
    refine lv_iload_n hx hb dX4_asked_70 rfl (lv_at hl 3 rfl) ?_
    refine lv_iload_n hx hb dX4_asked_71 rfl (lv_at hl 2 rfl) ?_
    refine lv_isub hx hb dX4_asked_72 ?_
    exact r_iret C hS hr hlk h dX4_asked_73
  · replace h := ifn c_1 h
    by_cases c_2 : x0 = 110
    · replace h := ifp c_2 h
      refine r_nI c_2.symm ?_
      refine lv_lookup (tgt := 74) (off := 73) hx hb dX4_asked_1 (by decide) (by decide) (by decide) ?_
      refine lv_iload_n hx hb dX4_asked_74 rfl (lv_at hl 1 rfl) ?_
      refine lv_iload_n hx hb dX4_asked_75 rfl (lv_at hl 2 rfl) ?_
      refine lv_isub hx hb dX4_asked_76 ?_
      refine lv_iload_n hx hb dX4_asked_77 rfl (lv_at hl 3 rfl) ?_
      refine lv_iadd hx hb dX4_asked_78 ?_
      exact r_iret C hS hr hlk h dX4_asked_79
    · replace h := ifn c_2 h
      by_cases c_3 : x0 = 113
      · replace h := ifp c_3 h
        refine r_nI c_3.symm ?_
        refine lv_lookup (tgt := 52) (off := 51) hx hb dX4_asked_1 (by decide) (by decide) (by decide) ?_
        refine lv_iload_n hx hb dX4_asked_52 rfl (lv_at hl 3 rfl) ?_
        refine lv_if_le (tgt := 62) hx hb dX4_asked_53 (by decide) (fun c_6 => ?_) (fun c_6 => ?_)
        · replace h := ifp c_6 h
          refine lv_iconst (v := (-1)) hx hb dX4_asked_62 (by decide) ?_
          exact r_iret C hS hr hlk h dX4_asked_63
        · replace h := ifn c_6 h
          refine lv_iload_n hx hb dX4_asked_56 rfl (lv_at hl 1 rfl) ?_
          refine lv_iload_n hx hb dX4_asked_57 rfl (lv_at hl 3 rfl) ?_
          obtain ⟨b_7, h⟩ := ift h
          refine lv_idiv hx hb dX4_asked_58 b_7 ?_
          refine lv_goto (tgt := 63) hx hb dX4_asked_59 (by decide) ?_
          exact r_iret C hS hr hlk h dX4_asked_63
      · replace h := ifn c_3 h
        by_cases c_4 : x0 = 114
        · replace h := ifp c_4 h
          refine r_nI c_4.symm ?_
          refine lv_lookup (tgt := 68) (off := 67) hx hb dX4_asked_1 (by decide) (by decide) (by decide) ?_
          refine lv_iload_n hx hb dX4_asked_68 rfl (lv_at hl 2 rfl) ?_
          exact r_iret C hS hr hlk h dX4_asked_69
        · replace h := ifn c_4 h
          by_cases c_5 : x0 = 116
          · replace h := ifp c_5 h
            refine r_nI c_5.symm ?_
            refine lv_lookup (tgt := 64) (off := 63) hx hb dX4_asked_1 (by decide) (by decide) (by decide) ?_
            refine lv_iload_n hx hb dX4_asked_64 rfl (lv_at hl 1 rfl) ?_
            refine lv_iload_n hx hb dX4_asked_65 rfl (lv_at hl 2 rfl) ?_
            refine lv_isub hx hb dX4_asked_66 ?_
            exact r_iret C hS hr hlk h dX4_asked_67
          · replace h := ifn c_5 h
            refine lv_lookup (tgt := 80) (off := 79) hx hb dX4_asked_1 (by decide) ((lv_osw c_1 (by decide)).trans ((lv_osw c_2 (by decide)).trans ((lv_osw c_3 (by decide)).trans ((lv_osw c_4 (by decide)).trans ((lv_osw c_5 (by decide)).trans (rfl)))))) (by decide) ?_
            refine lv_iconst (v := (-1)) hx hb dX4_asked_80 (by decide) ?_
            exact r_iret C hS hr hlk h dX4_asked_81
set_option maxHeartbeats 4000000 in
set_option maxRecDepth 100000 in
theorem c_X9_depthOf (l : Launch) (G : Gl) (F : Nat) (a0 : Nat) (x1 : Int32) (M : zM) (k0 : zK a0 = 9) (q : Int32 × zM) (h : Ton_depthOf F a0 x1 M = some q) : Met l yX9_depthOf (wsM yX9_depthOf cX9_depthOf 2 (some .int)) (rmM 1 21) (Pre G M [.ref (G.1 + a0), .int x1]) (PoI G q) 0 0 (gA G) := by
  refine r_met (own := RX9) rfl (by decide) (Nat.le_of_ble_eq_true rfl) ?_
  intro p e s m below meth c ls C hr hlk hS hl
  have hl : lv_has ls 2 [(0, .ref (G.1 + a0)), (1, .int x1)] := hl
  obtain ⟨hx, hb, -⟩ := id C
  unfold Ton_depthOf at h
  refine lv_aload_n hx hb dX9_depthOf_0 rfl (lv_at hl 0 rfl) ?_
  refine lv_iload_n hx hb dX9_depthOf_1 rfl (lv_at hl 1 rfl) ?_
  obtain ⟨⟨r_1, M_2⟩, hq_3, h⟩ := ob h
  try dsimp only at h
  refine r_thenI hS (r_runV C hS hl.1 cv_X9_72 k0 (c_X9_has l G F a0 x1 M k0 _ hq_3) ⟨by decide, by decide⟩ rfl rfl (Nat.le_of_ble_eq_true rfl) ⟨Nat.zero_le _, Nat.zero_le _⟩ dX9_depthOf_2) (fun H locs hS => ?_)
  refine lv_if_eq (tgt := 17) hx hb dX9_depthOf_5 (by decide) (fun c_4 => ?_) (fun c_4 => ?_)
  · replace h := ifp c_4 h
    refine lv_iconst (v := (-1)) hx hb dX9_depthOf_17 (by decide) ?_
    exact r_iret C hS hr hlk h dX9_depthOf_18
  · replace h := ifn c_4 h
    refine lv_aload_n hx hb dX9_depthOf_8 rfl (lv_at hl 0 rfl) ?_
    refine r_gR C hS fl_X9_30 rfl k0 (zR_9_6 k0) dX9_depthOf_9 ?_
    refine lv_iload_n hx hb dX9_depthOf_12 rfl (lv_at hl 1 rfl) ?_
    obtain ⟨b_5, h⟩ := ift h
    refine r_iald C hS (zKr_9_6 k0) (zNr_9_6 k0) b_5 dX9_depthOf_13 ?_
    refine lv_goto (tgt := 18) hx hb dX9_depthOf_14 (by decide) ?_
    exact r_iret C hS hr hlk h dX9_depthOf_18
set_option maxHeartbeats 4000000 in
set_option maxRecDepth 100000 in
theorem c_X9_sizeOf (l : Launch) (G : Gl) (F : Nat) (a0 : Nat) (x1 : Int32) (M : zM) (k0 : zK a0 = 9) (q : Int32 × zM) (h : Ton_sizeOf F a0 x1 M = some q) : Met l yX9_sizeOf (wsM yX9_sizeOf cX9_sizeOf 2 (some .int)) (rmM 1 21) (Pre G M [.ref (G.1 + a0), .int x1]) (PoI G q) 0 0 (gA G) := by
  refine r_met (own := RX9) rfl (by decide) (Nat.le_of_ble_eq_true rfl) ?_
  intro p e s m below meth c ls C hr hlk hS hl
  have hl : lv_has ls 2 [(0, .ref (G.1 + a0)), (1, .int x1)] := hl
  obtain ⟨hx, hb, -⟩ := id C
  unfold Ton_sizeOf at h
  refine lv_aload_n hx hb dX9_sizeOf_0 rfl (lv_at hl 0 rfl) ?_
  refine lv_iload_n hx hb dX9_sizeOf_1 rfl (lv_at hl 1 rfl) ?_
  obtain ⟨⟨r_1, M_2⟩, hq_3, h⟩ := ob h
  try dsimp only at h
  refine r_thenI hS (r_runV C hS hl.1 cv_X9_72 k0 (c_X9_has l G F a0 x1 M k0 _ hq_3) ⟨by decide, by decide⟩ rfl rfl (Nat.le_of_ble_eq_true rfl) ⟨Nat.zero_le _, Nat.zero_le _⟩ dX9_sizeOf_2) (fun H locs hS => ?_)
  refine lv_if_eq (tgt := 17) hx hb dX9_sizeOf_5 (by decide) (fun c_4 => ?_) (fun c_4 => ?_)
  · replace h := ifp c_4 h
    refine lv_iconst (v := (-1)) hx hb dX9_sizeOf_17 (by decide) ?_
    exact r_iret C hS hr hlk h dX9_sizeOf_18
  · replace h := ifn c_4 h
    refine lv_aload_n hx hb dX9_sizeOf_8 rfl (lv_at hl 0 rfl) ?_
    refine r_gR C hS fl_X9_23 rfl k0 (zR_9_4 k0) dX9_sizeOf_9 ?_
    refine lv_iload_n hx hb dX9_sizeOf_12 rfl (lv_at hl 1 rfl) ?_
    obtain ⟨b_5, h⟩ := ift h
    refine r_iald C hS (zKr_9_4 k0) (zNr_9_4 k0) b_5 dX9_sizeOf_13 ?_
    refine lv_goto (tgt := 18) hx hb dX9_sizeOf_14 (by decide) ?_
    exact r_iret C hS hr hlk h dX9_sizeOf_18
set_option maxHeartbeats 4000000 in
set_option maxRecDepth 100000 in
theorem c_X9_lettersOf (l : Launch) (G : Gl) (F : Nat) (a0 : Nat) (x1 : Int32) (M : zM) (k0 : zK a0 = 9) (q : Int32 × zM) (h : Ton_lettersOf F a0 x1 M = some q) : Met l yX9_lettersOf (wsM yX9_lettersOf cX9_lettersOf 2 (some .int)) (rmM 1 21) (Pre G M [.ref (G.1 + a0), .int x1]) (PoI G q) 0 0 (gA G) := by
  refine r_met (own := RX9) rfl (by decide) (Nat.le_of_ble_eq_true rfl) ?_
  intro p e s m below meth c ls C hr hlk hS hl
  have hl : lv_has ls 2 [(0, .ref (G.1 + a0)), (1, .int x1)] := hl
  obtain ⟨hx, hb, -⟩ := id C
  unfold Ton_lettersOf at h
  refine lv_aload_n hx hb dX9_lettersOf_0 rfl (lv_at hl 0 rfl) ?_
  refine lv_iload_n hx hb dX9_lettersOf_1 rfl (lv_at hl 1 rfl) ?_
  obtain ⟨⟨r_1, M_2⟩, hq_3, h⟩ := ob h
  try dsimp only at h
  refine r_thenI hS (r_runV C hS hl.1 cv_X9_72 k0 (c_X9_has l G F a0 x1 M k0 _ hq_3) ⟨by decide, by decide⟩ rfl rfl (Nat.le_of_ble_eq_true rfl) ⟨Nat.zero_le _, Nat.zero_le _⟩ dX9_lettersOf_2) (fun H locs hS => ?_)
  refine lv_if_eq (tgt := 17) hx hb dX9_lettersOf_5 (by decide) (fun c_4 => ?_) (fun c_4 => ?_)
  · replace h := ifp c_4 h
    refine lv_iconst (v := (-1)) hx hb dX9_lettersOf_17 (by decide) ?_
    exact r_iret C hS hr hlk h dX9_lettersOf_18
  · replace h := ifn c_4 h
    refine lv_aload_n hx hb dX9_lettersOf_8 rfl (lv_at hl 0 rfl) ?_
    refine r_gR C hS fl_X9_27 rfl k0 (zR_9_5 k0) dX9_lettersOf_9 ?_
    refine lv_iload_n hx hb dX9_lettersOf_12 rfl (lv_at hl 1 rfl) ?_
    obtain ⟨b_5, h⟩ := ift h
    refine r_iald C hS (zKr_9_5 k0) (zNr_9_5 k0) b_5 dX9_lettersOf_13 ?_
    refine lv_goto (tgt := 18) hx hb dX9_lettersOf_14 (by decide) ?_
    exact r_iret C hS hr hlk h dX9_lettersOf_18
set_option maxHeartbeats 4000000 in
set_option maxRecDepth 100000 in
theorem c_X9_appendTo (l : Launch) (G : Gl) (F : Nat) (a0 : Nat) (a1 : Nat) (a2 : Nat) (x3 : Int32) (M : zM) (k0 : zK a0 = 9) (k1 : zK a1 = 3) (k2 : zK a2 = 3) (q : Int32 × zM) (h : Ton_appendTo F a0 a1 a2 x3 M = some q) : Met l yX9_appendTo (wsM yX9_appendTo cX9_appendTo 4 (some .boolean)) (rmM 2 49) (Pre G M [.ref (G.1 + a0), .ref (G.1 + a1), .ref (G.1 + a2), .int x3]) (PoI G q) 0 0 (gA G) := by
  refine r_met (own := RX9) rfl (by decide) (Nat.le_of_ble_eq_true rfl) ?_
  intro p e s m below meth c ls C hr hlk hS hl
  have hl : lv_has ls 4 [(0, .ref (G.1 + a0)), (1, .ref (G.1 + a1)), (2, .ref (G.1 + a2)), (3, .int x3)] := hl
  obtain ⟨hx, hb, -⟩ := id C
  unfold Ton_appendTo at h
  refine lv_aload_n hx hb dX9_appendTo_0 rfl (lv_at hl 1 rfl) ?_
  refine lv_aload_n hx hb dX9_appendTo_1 rfl (lv_at hl 0 rfl) ?_
  refine r_gR C hS fl_X9_14 rfl k0 (zR_9_2 k0) dX9_appendTo_2 ?_
  refine lv_iload_n hx hb dX9_appendTo_5 rfl (lv_at hl 3 rfl) ?_
  refine lv_aload_n hx hb dX9_appendTo_6 rfl (lv_at hl 0 rfl) ?_
  refine lv_iload_n hx hb dX9_appendTo_7 rfl (lv_at hl 3 rfl) ?_
  obtain ⟨⟨r_1, M_2⟩, hq_3, h⟩ := ob h
  try dsimp only at h
  refine r_thenI hS (r_runV C hS hl.1 cv_X9_76 k0 (c_X9_sizeOf l G F a0 x3 M k0 _ hq_3) ⟨by decide, by decide⟩ rfl rfl (Nat.le_of_ble_eq_true rfl) ⟨Nat.zero_le _, Nat.zero_le _⟩ dX9_appendTo_8) (fun H locs hS => ?_)
  obtain ⟨⟨r_4, M_5⟩, hq_6, h⟩ := ob h
  try dsimp only at h
  refine r_thenI hS (r_runV C hS hl.1 cv_X9_98 k1 (c_X3_appendRow l G F a1 (a0 + 1) x3 r_1 M_2 k1 (zKr_9_2 k0) _ hq_6) ⟨by decide, by decide⟩ rfl rfl (Nat.le_of_ble_eq_true rfl) ⟨Nat.zero_le _, Nat.zero_le _⟩ dX9_appendTo_11) (fun H locs hS => ?_)
  refine lv_if_eq (tgt := 38) hx hb dX9_appendTo_14 (by decide) (fun c_7 => ?_) (fun c_7 => ?_)
  · replace h := ifp c_7 h
    refine lv_iconst (v := 0) hx hb dX9_appendTo_38 (by decide) ?_
    exact r_zret C hS hr hlk h dX9_appendTo_39
  · replace h := ifn c_7 h
    refine lv_aload_n hx hb dX9_appendTo_17 rfl (lv_at hl 2 rfl) ?_
    refine lv_aload_n hx hb dX9_appendTo_18 rfl (lv_at hl 0 rfl) ?_
    refine r_gR C hS fl_X9_20 rfl k0 (zR_9_3 k0) dX9_appendTo_19 ?_
    refine lv_iload_n hx hb dX9_appendTo_22 rfl (lv_at hl 3 rfl) ?_
    refine lv_aload_n hx hb dX9_appendTo_23 rfl (lv_at hl 0 rfl) ?_
    refine lv_iload_n hx hb dX9_appendTo_24 rfl (lv_at hl 3 rfl) ?_
    obtain ⟨⟨r_8, M_9⟩, hq_10, h⟩ := ob h
    try dsimp only at h
    refine r_thenI hS (r_runV C hS hl.1 cv_X9_102 k0 (c_X9_lettersOf l G F a0 x3 M_5 k0 _ hq_10) ⟨by decide, by decide⟩ rfl rfl (Nat.le_of_ble_eq_true rfl) ⟨Nat.zero_le _, Nat.zero_le _⟩ dX9_appendTo_25) (fun H locs hS => ?_)
    obtain ⟨⟨r_11, M_12⟩, hq_13, h⟩ := ob h
    try dsimp only at h
    refine r_thenI hS (r_runV C hS hl.1 cv_X9_98 k2 (c_X3_appendRow l G F a2 (a0 + 3) x3 r_8 M_9 k2 (zKr_9_3 k0) _ hq_13) ⟨by decide, by decide⟩ rfl rfl (Nat.le_of_ble_eq_true rfl) ⟨Nat.zero_le _, Nat.zero_le _⟩ dX9_appendTo_28) (fun H locs hS => ?_)
    refine lv_if_eq (tgt := 38) hx hb dX9_appendTo_31 (by decide) (fun c_14 => ?_) (fun c_14 => ?_)
    · replace h := ifp c_14 h
      refine lv_iconst (v := 0) hx hb dX9_appendTo_38 (by decide) ?_
      exact r_zret C hS hr hlk h dX9_appendTo_39
    · replace h := ifn c_14 h
      refine lv_iconst (v := 1) hx hb dX9_appendTo_34 (by decide) ?_
      refine lv_goto (tgt := 39) hx hb dX9_appendTo_35 (by decide) ?_
      exact r_zret C hS hr hlk h dX9_appendTo_39
set_option maxHeartbeats 4000000 in
set_option maxRecDepth 100000 in
theorem c_X4_addName (l : Launch) (G : Gl) (F : Nat) (a1 : Nat) (x2 : Int32) (M : zM) (k1 : zK a1 = 9) (q : Int32 × zM) (h : Nam_addName F a1 x2 M = some q) : Met l yX4_addName (wsM yX4_addName cX4_addName 3 (some .boolean)) (rmM 3 72) (Pre G M [.ref (G.1 + 44), .ref (G.1 + a1), .int x2]) (PoI G q) 0 0 (gA G) := by
  refine r_met (own := RX4) rfl (by decide) (Nat.le_of_ble_eq_true rfl) ?_
  intro p e s m below meth c ls C hr hlk hS hl
  have hl : lv_has ls 3 [(0, .ref (G.1 + 44)), (1, .ref (G.1 + a1)), (2, .int x2)] := hl
  obtain ⟨hx, hb, -⟩ := id C
  unfold Nam_addName at h
  refine lv_aload_n hx hb dX4_addName_0 rfl (lv_at hl 1 rfl) ?_
  refine lv_iload_n hx hb dX4_addName_1 rfl (lv_at hl 2 rfl) ?_
  obtain ⟨⟨r_1, M_2⟩, hq_3, h⟩ := ob h
  try dsimp only at h
  refine r_thenI hS (r_runV C hS hl.1 cv_X4_44 k1 (c_X9_has l G F a1 x2 M k1 _ hq_3) ⟨by decide, by decide⟩ rfl rfl (Nat.le_of_ble_eq_true rfl) ⟨Nat.zero_le _, Nat.zero_le _⟩ dX4_addName_2) (fun H locs hS => ?_)
  refine lv_if_ne (tgt := 10) hx hb dX4_addName_5 (by decide) (fun c_4 => ?_) (fun c_4 => ?_)
  · replace h := ifn c_4 h
    refine lv_aload_n hx hb dX4_addName_10 rfl (lv_at hl 0 rfl) ?_
    refine lv_aload_n hx hb dX4_addName_11 rfl (lv_at hl 0 rfl) ?_
    refine r_gI C hS fl_X4_52 rfl rfl dX4_addName_12 ?_
    refine lv_aload_n hx hb dX4_addName_15 rfl (lv_at hl 1 rfl) ?_
    refine lv_iload_n hx hb dX4_addName_16 rfl (lv_at hl 2 rfl) ?_
    obtain ⟨⟨r_5, M_6⟩, hq_7, h⟩ := ob h
    try dsimp only at h
    refine r_thenI hS (r_runV C hS hl.1 cv_X4_120 k1 (c_X9_depthOf l G F a1 x2 M_2 k1 _ hq_7) ⟨by decide, by decide⟩ rfl rfl (Nat.le_of_ble_eq_true rfl) ⟨Nat.zero_le _, Nat.zero_le _⟩ dX4_addName_17) (fun H locs hS => ?_)
    refine r_jmx C hl.1 tw_542 (by decide) (Nat.le_of_ble_eq_true rfl) ⟨Nat.zero_le _, Nat.zero_le _⟩ dX4_addName_20 ?_
    obtain ⟨M_8, e_9, h⟩ := olt h
    refine r_pI C hS fp_X4_52 rfl rfl e_9 dX4_addName_23 (fun H locs hS => ?_)
    refine lv_aload_n hx hb dX4_addName_26 rfl (lv_at hl 1 rfl) ?_
    refine lv_iload_n hx hb dX4_addName_27 rfl (lv_at hl 2 rfl) ?_
    obtain ⟨⟨r_10, M_11⟩, hq_12, h⟩ := ob h
    try dsimp only at h
    refine r_thenI hS (r_runV C hS hl.1 cv_X4_130 k1 (c_X9_sizeOf l G F a1 x2 M_8 k1 _ hq_12) ⟨by decide, by decide⟩ rfl rfl (Nat.le_of_ble_eq_true rfl) ⟨Nat.zero_le _, Nat.zero_le _⟩ dX4_addName_28) (fun H locs hS => ?_)
    refine lv_if_eq (tgt := 57) hx hb dX4_addName_31 (by decide) (fun c_13 => ?_) (fun c_13 => ?_)
    · replace h := ifp c_13 h
      refine lv_iconst (v := 1) hx hb dX4_addName_57 (by decide) ?_
      refine lv_goto (tgt := 62) hx hb dX4_addName_58 (by decide) ?_
      exact r_zret C hS hr hlk h dX4_addName_62
    · replace h := ifn c_13 h
      refine lv_aload_n hx hb dX4_addName_34 rfl (lv_at hl 0 rfl) ?_
      obtain ⟨⟨r_14, M_15⟩, hq_16, h⟩ := ob h
      try dsimp only at h
      refine r_thenI hS (r_runV C hS hl.1 cv_X4_113 rfl (c_X4_addGap l G F  M_11  _ hq_16) ⟨by decide, by decide⟩ rfl rfl (Nat.le_of_ble_eq_true rfl) ⟨Nat.zero_le _, Nat.zero_le _⟩ dX4_addName_35) (fun H locs hS => ?_)
      refine lv_if_eq (tgt := 61) hx hb dX4_addName_38 (by decide) (fun c_17 => ?_) (fun c_17 => ?_)
      · replace h := ifp c_17 h
        refine lv_iconst (v := 0) hx hb dX4_addName_61 (by decide) ?_
        exact r_zret C hS hr hlk h dX4_addName_62
      · replace h := ifn c_17 h
        refine lv_aload_n hx hb dX4_addName_41 rfl (lv_at hl 1 rfl) ?_
        refine lv_aload_n hx hb dX4_addName_42 rfl (lv_at hl 0 rfl) ?_
        refine r_gR C hS fl_X4_12 rfl rfl rfl dX4_addName_43 ?_
        refine lv_aload_n hx hb dX4_addName_46 rfl (lv_at hl 0 rfl) ?_
        refine r_gR C hS fl_X4_18 rfl rfl rfl dX4_addName_47 ?_
        refine lv_iload_n hx hb dX4_addName_50 rfl (lv_at hl 2 rfl) ?_
        obtain ⟨⟨r_18, M_19⟩, hq_20, h⟩ := ob h
        try dsimp only at h
        refine r_thenI hS (r_runV C hS hl.1 cv_X4_133 k1 (c_X9_appendTo l G F a1 45 47 x2 M_15 k1 rfl rfl _ hq_20) ⟨by decide, by decide⟩ rfl rfl (Nat.le_of_ble_eq_true rfl) ⟨Nat.zero_le _, Nat.zero_le _⟩ dX4_addName_51) (fun H locs hS => ?_)
        refine lv_if_eq (tgt := 61) hx hb dX4_addName_54 (by decide) (fun c_21 => ?_) (fun c_21 => ?_)
        · replace h := ifp c_21 h
          refine lv_iconst (v := 0) hx hb dX4_addName_61 (by decide) ?_
          exact r_zret C hS hr hlk h dX4_addName_62
        · replace h := ifn c_21 h
          refine lv_iconst (v := 1) hx hb dX4_addName_57 (by decide) ?_
          refine lv_goto (tgt := 62) hx hb dX4_addName_58 (by decide) ?_
          exact r_zret C hS hr hlk h dX4_addName_62
  · replace h := ifp c_4 h
    refine lv_iconst (v := 0) hx hb dX4_addName_8 (by decide) ?_
    exact r_zret C hS hr hlk h dX4_addName_9
def E_Nam_spell_55 (G : Gl) (p : Program) (l : Launch) (e : Env) (s : State) (m : MethodId) (args : Array Value) (below : List Frame) (meth : Method) (c : Code) (Q : State → Prop) (a1 : Nat) (x2 : Int32) (x3 : Int32) (x4 : Int32) (x5 : Int32) (x6 : Int32) : Nat → (Int32 × zM) → Prop := fun k (x7, M) => match k with
  | 0 => ∀ (H : Heap) (locs : List Loc) (ls : Array Slot), St G M s H locs → lv_has ls 9 [(0, .ref (G.1 + 44)), (1, .ref (G.1 + a1)), (2, .int x2), (3, .int x3), (4, .int x4), (5, .int x5), (6, .int x6), (7, .int x7)] → W p l e (rmM 4 94) s m args below meth c H locs 0 0 Q (F0 m 55 ls [])
  | 1 => ∀ (H : Heap) (locs : List Loc) (ls : Array Slot), St G M s H locs → lv_has ls 9 [] → W p l e (rmM 4 94) s m args below meth c H locs 0 0 Q (F0 m 163 ls [])
  | 2 => ∀ (H : Heap) (locs : List Loc) (ls : Array Slot), St G M s H locs → lv_has ls 9 [(0, .ref (G.1 + 44))] → W p l e (rmM 4 94) s m args below meth c H locs 0 0 Q (F0 m 171 ls [])
  | _ => True
set_option maxHeartbeats 4000000 in
set_option maxRecDepth 100000 in
theorem w_Nam_spell_J93 {G : Gl} {p : Program} {l : Launch} {e : Env} {s : State} {m : MethodId} {args : Array Value} {below : List Frame} {meth : Method} {c : Code} {Q : State → Prop} (C : Cx G cX4_spell 9 RX4 p s m args c) (a1 : Nat) (x2 : Int32) (x3 : Int32) (x4 : Int32) (x5 : Int32) (x6 : Int32) (k1 : zK a1 = 9) (F : Nat) (x7 : Int32) (M : zM)  (q : Nat × (Int32 × zM)) (h : Nam_spell_J93 F a1 x2 x3 x4 x5 x6 x7 M = some q) (hE : (E_Nam_spell_55 G p l e s m args below meth c Q a1 x2 x3 x4 x5 x6) q.1 q.2) (H : Heap) (locs : List Loc) (ls : Array Slot) (hS : St G M s H locs) (hl : lv_has ls 9 [(0, .ref (G.1 + 44)), (1, .ref (G.1 + a1)), (2, .int x2), (3, .int x3), (4, .int x4), (5, .int x5), (6, .int x6), (7, .int x7)]) : W p l e (rmM 4 94) s m args below meth c H locs 0 0 Q (F0 m 93 ls []) := by
  obtain ⟨hx, hb, -⟩ := id C
  unfold Nam_spell_J93 at h
  refine lv_aload_n hx hb dX4_spell_93 rfl (lv_at hl 0 rfl) ?_
  refine r_gR C hS fl_X4_25 rfl rfl rfl dX4_spell_94 ?_
  refine r_gN C hS fn_X4_91 rfl rfl rfl dX4_spell_97 ?_
  refine lv_iload hx hb dX4_spell_100 (lv_at hl 7 rfl) ?_
  obtain ⟨b_19, h⟩ := ift h
  refine r_iald C hS rfl rfl b_19 dX4_spell_102 ?_
  refine lv_if_ne (tgt := 133) hx hb dX4_spell_103 (by decide) (fun c_20 => ?_) (fun c_20 => ?_)
  · replace h := ifn c_20 h
    refine lv_aload_n hx hb dX4_spell_133 rfl (lv_at hl 0 rfl) ?_
    refine lv_aload_n hx hb dX4_spell_134 rfl (lv_at hl 1 rfl) ?_
    refine lv_aload_n hx hb dX4_spell_135 rfl (lv_at hl 0 rfl) ?_
    refine r_gR C hS fl_X4_25 rfl rfl rfl dX4_spell_136 ?_
    refine r_gN C hS fn_X4_91 rfl rfl rfl dX4_spell_139 ?_
    refine lv_iload hx hb dX4_spell_142 (lv_at hl 7 rfl) ?_
    refine r_iald C hS rfl rfl b_19 dX4_spell_144 ?_
    refine lv_iload_n hx hb dX4_spell_145 rfl (lv_at hl 3 rfl) ?_
    refine lv_iload hx hb dX4_spell_146 (lv_at hl 5 rfl) ?_
    refine lv_iload hx hb dX4_spell_148 (lv_at hl 4 rfl) ?_
    obtain ⟨⟨r_21, M_22⟩, hq_23, h⟩ := ob h
    try dsimp only at h
    refine r_thenI hS (r_runS C hS hl.1 cs_X4_105 (c_X4_asked l G F (M.1 8 x7.toNatClampNeg) x3 x5 x4 M  _ hq_23) ⟨by decide, by decide⟩ rfl rfl (Nat.le_of_ble_eq_true rfl) ⟨Nat.zero_le _, Nat.zero_le _⟩ dX4_spell_150) (fun H locs hS => ?_)
    obtain ⟨⟨r_24, M_25⟩, hq_26, h⟩ := ob h
    try dsimp only at h
    refine r_thenI hS (r_runV C hS hl.1 cv_X4_109 rfl (c_X4_addName l G F a1 r_21 M_22 k1 _ hq_26) ⟨by decide, by decide⟩ rfl rfl (Nat.le_of_ble_eq_true rfl) ⟨Nat.zero_le _, Nat.zero_le _⟩ dX4_spell_153) (fun H locs hS => ?_)
    refine lv_istore (lv' := [(8, .int r_24), (0, .ref (G.1 + 44)), (1, .ref (G.1 + a1)), (2, .int x2), (3, .int x3), (4, .int x4), (5, .int x5), (6, .int x6), (7, .int x7)]) hx hb dX4_spell_156 hl (by decide) rfl (fun ls hl => ?_)
    refine lv_iload hx hb dX4_spell_158 (lv_at hl 0 rfl) ?_
    refine lv_if_ne (tgt := 165) hx hb dX4_spell_160 (by decide) (fun c_27 => ?_) (fun c_27 => ?_)
    · replace h := ifn c_27 h
      obtain ⟨x7_28, e_29, h⟩ := olt h
      refine lv_iinc (v := x7_28) (lv' := [(7, .int x7_28), (8, .int r_24), (0, .ref (G.1 + 44)), (1, .ref (G.1 + a1)), (2, .int x2), (3, .int x3), (4, .int x4), (5, .int x5), (6, .int x6)]) hx hb dX4_spell_165 hl (k := 8) rfl (by rw [e_29]; rfl) (by decide) rfl (fun ls hl => ?_)
      refine lv_goto (tgt := 55) hx hb dX4_spell_168 (by decide) ?_
      obtain rfl := Option.some.inj h
      exact hE _ _ _ hS (lv_sub hl [2, 3, 4, 5, 6, 7, 8, 0] rfl)
    · replace h := ifp c_27 h
      obtain rfl := Option.some.inj h
      exact hE _ _ _ hS (lv_sub hl [] rfl)
  · replace h := ifp c_20 h
    refine lv_aload_n hx hb dX4_spell_106 rfl (lv_at hl 0 rfl) ?_
    refine lv_aload_n hx hb dX4_spell_107 rfl (lv_at hl 0 rfl) ?_
    refine r_gR C hS fl_X4_25 rfl rfl rfl dX4_spell_108 ?_
    refine r_gN C hS fn_X4_94 rfl rfl rfl dX4_spell_111 ?_
    refine lv_iload hx hb dX4_spell_114 (lv_at hl 7 rfl) ?_
    refine r_lald C hS rfl rfl b_19 dX4_spell_116 ?_
    refine lv_aload_n hx hb dX4_spell_117 rfl (lv_at hl 0 rfl) ?_
    refine r_gR C hS fl_X4_25 rfl rfl rfl dX4_spell_118 ?_
    refine r_gN C hS fn_X4_98 rfl rfl rfl dX4_spell_121 ?_
    refine lv_iload hx hb dX4_spell_124 (lv_at hl 7 rfl) ?_
    refine r_iald C hS rfl rfl b_19 dX4_spell_126 ?_
    obtain ⟨⟨r_30, M_31⟩, hq_32, h⟩ := ob h
    try dsimp only at h
    refine r_thenI hS (r_runV C hS hl.1 cv_X4_101 rfl (c_X4_addLetters l G F (M.2 10 x7.toNatClampNeg) (M.1 11 x7.toNatClampNeg) M  _ hq_32) ⟨by decide, by decide⟩ rfl rfl (Nat.le_of_ble_eq_true rfl) ⟨Nat.zero_le _, Nat.zero_le _⟩ dX4_spell_127) (fun H locs hS => ?_)
    refine lv_goto (tgt := 156) hx hb dX4_spell_130 (by decide) ?_
    refine lv_istore (lv' := [(8, .int r_30), (0, .ref (G.1 + 44)), (1, .ref (G.1 + a1)), (2, .int x2), (3, .int x3), (4, .int x4), (5, .int x5), (6, .int x6), (7, .int x7)]) hx hb dX4_spell_156 hl (by decide) rfl (fun ls hl => ?_)
    refine lv_iload hx hb dX4_spell_158 (lv_at hl 0 rfl) ?_
    refine lv_if_ne (tgt := 165) hx hb dX4_spell_160 (by decide) (fun c_33 => ?_) (fun c_33 => ?_)
    · replace h := ifn c_33 h
      obtain ⟨x7_34, e_35, h⟩ := olt h
      refine lv_iinc (v := x7_34) (lv' := [(7, .int x7_34), (8, .int r_30), (0, .ref (G.1 + 44)), (1, .ref (G.1 + a1)), (2, .int x2), (3, .int x3), (4, .int x4), (5, .int x5), (6, .int x6)]) hx hb dX4_spell_165 hl (k := 8) rfl (by rw [e_35]; rfl) (by decide) rfl (fun ls hl => ?_)
      refine lv_goto (tgt := 55) hx hb dX4_spell_168 (by decide) ?_
      obtain rfl := Option.some.inj h
      exact hE _ _ _ hS (lv_sub hl [2, 3, 4, 5, 6, 7, 8, 0] rfl)
    · replace h := ifp c_33 h
      obtain rfl := Option.some.inj h
      exact hE _ _ _ hS (lv_sub hl [] rfl)
set_option maxHeartbeats 4000000 in
set_option maxRecDepth 100000 in
theorem w_Nam_spell_B55 {G : Gl} {p : Program} {l : Launch} {e : Env} {s : State} {m : MethodId} {args : Array Value} {below : List Frame} {meth : Method} {c : Code} {Q : State → Prop} (C : Cx G cX4_spell 9 RX4 p s m args c) (a1 : Nat) (x2 : Int32) (x3 : Int32) (x4 : Int32) (x5 : Int32) (x6 : Int32) (k1 : zK a1 = 9) (F : Nat) : ∀ (σ : (Int32 × zM)) (q : Nat × (Int32 × zM)), Nam_spell_B55 F a1 x2 x3 x4 x5 x6 σ = some q → (E_Nam_spell_55 G p l e s m args below meth c Q a1 x2 x3 x4 x5 x6) q.1 q.2 → (E_Nam_spell_55 G p l e s m args below meth c Q a1 x2 x3 x4 x5 x6) 0 σ := by
  intro (x7, M) q h hE H locs ls hS hl
  obtain ⟨hx, hb, -⟩ := id C
  unfold Nam_spell_B55 at h
  try dsimp only at h
  refine lv_iload hx hb dX4_spell_55 (lv_at hl 7 rfl) ?_
  refine lv_iload hx hb dX4_spell_57 (lv_at hl 6 rfl) ?_
  refine lv_aload_n hx hb dX4_spell_59 rfl (lv_at hl 0 rfl) ?_
  refine r_gR C hS fl_X4_25 rfl rfl rfl dX4_spell_60 ?_
  refine r_gN C hS fn_X4_84 rfl rfl rfl dX4_spell_63 ?_
  refine lv_iload_n hx hb dX4_spell_66 rfl (lv_at hl 2 rfl) ?_
  obtain ⟨b_15, h⟩ := ift h
  refine r_iald C hS rfl rfl b_15 dX4_spell_67 ?_
  refine lv_iadd hx hb dX4_spell_68 ?_
  refine lv_icmp_ge (tgt := 171) hx hb dX4_spell_69 (by decide) (fun c_16 => ?_) (fun c_16 => ?_)
  · replace h := ifp c_16 h
    obtain rfl := Option.some.inj h
    exact hE _ _ _ hS (lv_sub hl [0] rfl)
  · replace h := ifn c_16 h
    refine lv_aload_n hx hb dX4_spell_72 rfl (lv_at hl 0 rfl) ?_
    refine r_gR C hS fl_X4_25 rfl rfl rfl dX4_spell_73 ?_
    refine r_gN C hS fn_X4_87 rfl rfl rfl dX4_spell_76 ?_
    refine lv_iload hx hb dX4_spell_79 (lv_at hl 7 rfl) ?_
    obtain ⟨b_17, h⟩ := ift h
    refine r_zald C hS rfl rfl b_17 dX4_spell_81 ?_
    refine lv_if_eq (tgt := 93) hx hb dX4_spell_82 (by decide) (fun c_18 => ?_) (fun c_18 => ?_)
    · replace h := ifp c_18 h
      exact w_Nam_spell_J93 C a1 x2 x3 x4 x5 x6 k1 F x7 M  q h hE _ _ _ hS (lv_sub hl [0, 1, 2, 3, 4, 5, 6, 7] rfl)
    · replace h := ifn c_18 h
      refine lv_iload hx hb dX4_spell_85 (lv_at hl 5 rfl) ?_
      refine lv_if_ne (tgt := 93) hx hb dX4_spell_87 (by decide) (fun c_36 => ?_) (fun c_36 => ?_)
      · replace h := ifn c_36 h
        exact w_Nam_spell_J93 C a1 x2 x3 x4 x5 x6 k1 F x7 M  q h hE _ _ _ hS (lv_sub hl [0, 1, 2, 3, 4, 5, 6, 7] rfl)
      · replace h := ifp c_36 h
        refine lv_goto (tgt := 165) hx hb dX4_spell_90 (by decide) ?_
        obtain ⟨x7_37, e_38, h⟩ := olt h
        refine lv_iinc (v := x7_37) (lv' := [(7, .int x7_37), (0, .ref (G.1 + 44)), (1, .ref (G.1 + a1)), (2, .int x2), (3, .int x3), (4, .int x4), (5, .int x5), (6, .int x6)]) hx hb dX4_spell_165 hl (k := 7) rfl (by rw [e_38]; rfl) (by decide) rfl (fun ls hl => ?_)
        refine lv_goto (tgt := 55) hx hb dX4_spell_168 (by decide) ?_
        obtain rfl := Option.some.inj h
        exact hE _ _ _ hS (lv_sub hl [1, 2, 3, 4, 5, 6, 7, 0] rfl)
set_option maxHeartbeats 4000000 in
set_option maxRecDepth 100000 in
theorem w_Nam_spell_J43 {G : Gl} {p : Program} {l : Launch} {e : Env} {s : State} {m : MethodId} {args : Array Value} {below : List Frame} {meth : Method} {c : Code} (C : Cx G cX4_spell 9 RX4 p s m args c) (hr : meth.sig.returnType = (some .boolean)) (hlk : meth.locks = false) (F : Nat) (a1 : Nat) (x2 : Int32) (x3 : Int32) (x4 : Int32) (y0 : Int32) (M : zM) (k1 : zK a1 = 9) (q : Int32 × zM) (h : Nam_spell_J43 F a1 x2 x3 x4 y0 M = some q) (H : Heap) (locs : List Loc) (ls : Array Slot) (hS : St G M s H locs) (hl : lv_has ls 9 [(0, .ref (G.1 + 44)), (1, .ref (G.1 + a1)), (2, .int x2), (3, .int x3), (4, .int x4)]) : W p l e (rmM 4 94) s m args below meth c H locs 0 0 (MQ below (PoI G q) args s 0 0 (gA G)) (F0 m 43 ls [.int y0]) := by
  obtain ⟨hx, hb, -⟩ := id C
  unfold Nam_spell_J43 at h
  refine lv_istore (lv' := [(5, .int y0), (0, .ref (G.1 + 44)), (1, .ref (G.1 + a1)), (2, .int x2), (3, .int x3), (4, .int x4)]) hx hb dX4_spell_43 hl (by decide) rfl (fun ls hl => ?_)
  refine lv_iload_n hx hb dX4_spell_45 rfl (lv_at hl 3 rfl) ?_
  refine lv_bipush (v := 8) hx hb dX4_spell_46 (by decide) ?_
  refine lv_imul hx hb dX4_spell_48 ?_
  obtain ⟨x6_13, e_14, h⟩ := olt h
  refine r_nI e_14 ?_
  refine lv_istore (lv' := [(6, .int x6_13), (5, .int y0), (0, .ref (G.1 + 44)), (1, .ref (G.1 + a1)), (2, .int x2), (3, .int x3), (4, .int x4)]) hx hb dX4_spell_49 hl (by decide) rfl (fun ls hl => ?_)
  refine lv_iload hx hb dX4_spell_51 (lv_at hl 0 rfl) ?_
  refine lv_istore (lv' := [(7, .int x6_13), (6, .int x6_13), (5, .int y0), (0, .ref (G.1 + 44)), (1, .ref (G.1 + a1)), (2, .int x2), (3, .int x3), (4, .int x4)]) hx hb dX4_spell_53 hl (by decide) rfl (fun ls hl => ?_)
  obtain ⟨⟨k_41, x7_39, M_40⟩, hq_42, h⟩ := ob h
  try dsimp only at h
  refine loopW (E := (E_Nam_spell_55 G p l e s m _ below meth c _ a1 x2 x3 x4 y0 x6_13)) (w_Nam_spell_B55 C a1 x2 x3 x4 y0 x6_13 k1 F) F _ _ hq_42 ?_ _ _ _ hS (lv_sub hl [3, 4, 5, 6, 7, 2, 1, 0] rfl)
  by_cases ek_45 : k_41 = 1
  · replace h := ifp ek_45 h
    subst ek_45
    intro H locs ls hS hl
    refine lv_iconst (v := 0) hx hb dX4_spell_163 (by decide) ?_
    exact r_zret C hS hr hlk h dX4_spell_164
  · replace h := ifn ek_45 h
    by_cases ek_44 : k_41 = 2
    · replace h := ifp ek_44 h
      subst ek_44
      intro H locs ls hS hl
      refine lv_aload_n hx hb dX4_spell_171 rfl (lv_at hl 0 rfl) ?_
      refine r_gI C hS fl_X4_52 rfl rfl dX4_spell_172 ?_
      refine lv_bipush (v := 8) hx hb dX4_spell_175 (by decide) ?_
      refine lv_icmp_ge (tgt := 184) hx hb dX4_spell_177 (by decide) (fun c_43 => ?_) (fun c_43 => ?_)
      · replace h := ifp c_43 h
        refine lv_iconst (v := 0) hx hb dX4_spell_184 (by decide) ?_
        exact r_zret C hS hr hlk h dX4_spell_185
      · replace h := ifn c_43 h
        refine lv_iconst (v := 1) hx hb dX4_spell_180 (by decide) ?_
        refine lv_goto (tgt := 185) hx hb dX4_spell_181 (by decide) ?_
        exact r_zret C hS hr hlk h dX4_spell_185
    · replace h := ifn ek_44 h
      cases h
set_option maxHeartbeats 4000000 in
set_option maxRecDepth 100000 in
theorem c_X4_spell (l : Launch) (G : Gl) (F : Nat) (a1 : Nat) (x2 : Int32) (x3 : Int32) (M : zM) (k1 : zK a1 = 9) (q : Int32 × zM) (h : Nam_spell F a1 x2 x3 M = some q) : Met l yX4_spell (wsM yX4_spell cX4_spell 9 (some .boolean)) (rmM 4 94) (Pre G M [.ref (G.1 + 44), .ref (G.1 + a1), .int x2, .int x3]) (PoI G q) 0 0 (gA G) := by
  refine r_met (own := RX4) rfl (by decide) (Nat.le_of_ble_eq_true rfl) ?_
  intro p e s m below meth c ls C hr hlk hS hl
  have hl : lv_has ls 9 [(0, .ref (G.1 + 44)), (1, .ref (G.1 + a1)), (2, .int x2), (3, .int x3)] := hl
  obtain ⟨hx, hb, -⟩ := id C
  unfold Nam_spell at h
  refine lv_aload_n hx hb dX4_spell_0 rfl (lv_at hl 0 rfl) ?_
  refine r_gR C hS fl_X4_12 rfl rfl rfl dX4_spell_1 ?_
  obtain ⟨⟨_r_1, M_2⟩, hq_3, h⟩ := ob h
  try dsimp only at h
  refine r_thenV hS (r_runV C hS hl.1 cv_X4_78 rfl (c_X3_empty l G F 45 M rfl _ hq_3) ⟨by decide, by decide⟩ rfl rfl (Nat.le_of_ble_eq_true rfl) ⟨Nat.zero_le _, Nat.zero_le _⟩ dX4_spell_4) (fun H locs hS => ?_)
  refine lv_aload_n hx hb dX4_spell_7 rfl (lv_at hl 0 rfl) ?_
  refine r_gR C hS fl_X4_18 rfl rfl rfl dX4_spell_8 ?_
  obtain ⟨⟨_r_4, M_5⟩, hq_6, h⟩ := ob h
  try dsimp only at h
  refine r_thenV hS (r_runV C hS hl.1 cv_X4_78 rfl (c_X3_empty l G F 47 M_2 rfl _ hq_6) ⟨by decide, by decide⟩ rfl rfl (Nat.le_of_ble_eq_true rfl) ⟨Nat.zero_le _, Nat.zero_le _⟩ dX4_spell_11) (fun H locs hS => ?_)
  refine lv_aload_n hx hb dX4_spell_14 rfl (lv_at hl 0 rfl) ?_
  refine lv_iconst (v := 0) hx hb dX4_spell_15 (by decide) ?_
  obtain ⟨M_7, e_8, h⟩ := olt h
  refine r_pI C hS fp_X4_52 rfl rfl e_8 dX4_spell_16 (fun H locs hS => ?_)
  refine lv_aload_n hx hb dX4_spell_19 rfl (lv_at hl 0 rfl) ?_
  refine r_gR C hS fl_X4_25 rfl rfl rfl dX4_spell_20 ?_
  refine r_gN C hS fn_X4_81 rfl rfl rfl dX4_spell_23 ?_
  refine lv_iload_n hx hb dX4_spell_26 rfl (lv_at hl 2 rfl) ?_
  obtain ⟨b_9, h⟩ := ift h
  refine r_iald C hS rfl rfl b_9 dX4_spell_27 ?_
  obtain ⟨x4_10, e_11, h⟩ := olt h
  refine r_nI e_11 ?_
  refine lv_istore (lv' := [(4, .int x4_10), (0, .ref (G.1 + 44)), (1, .ref (G.1 + a1)), (2, .int x2), (3, .int x3)]) hx hb dX4_spell_28 hl (by decide) rfl (fun ls hl => ?_)
  refine lv_iload hx hb dX4_spell_30 (lv_at hl 0 rfl) ?_
  refine lv_if_le (tgt := 42) hx hb dX4_spell_32 (by decide) (fun c_12 => ?_) (fun c_12 => ?_)
  · replace h := ifp c_12 h
    refine lv_iconst (v := 0) hx hb dX4_spell_42 (by decide) ?_
    exact w_Nam_spell_J43 C hr hlk F a1 x2 x3 x4_10 0 M_7 k1 q h _ _ _ hS (lv_sub hl [1, 2, 3, 4, 0] rfl)
  · replace h := ifn c_12 h
    refine lv_iload_n hx hb dX4_spell_35 rfl (lv_at hl 4 rfl) ?_
    refine lv_iload hx hb dX4_spell_36 (lv_at hl 0 rfl) ?_
    obtain ⟨b_46, h⟩ := ift h
    refine lv_irem hx hb dX4_spell_38 b_46 ?_
    refine lv_goto (tgt := 43) hx hb dX4_spell_39 (by decide) ?_
    exact w_Nam_spell_J43 C hr hlk F a1 x2 x3 x4_10 (x3 - x3 / x4_10 * x4_10) M_7 k1 q h _ _ _ hS (lv_sub hl [1, 2, 3, 4, 0] rfl)
def E_Spe_put_7 (G : Gl) (p : Program) (l : Launch) (e : Env) (s : State) (m : MethodId) (args : Array Value) (below : List Frame) (meth : Method) (c : Code) (Q : State → Prop) (a0 : Nat) (a2 : Nat) (x3 : Int32) : Nat → (Int32 × zM) → Prop := fun k (x4, M) => match k with
  | 0 => ∀ (H : Heap) (locs : List Loc) (ls : Array Slot), St G M s H locs → lv_has ls 5 [(0, .ref (G.1 + a0)), (2, .ref (G.1 + a2)), (3, .int x3), (4, .int x4)] → W p l e (rmM 1 21) s m args below meth c H locs 0 0 Q (F0 m 7 ls [])
  | 1 => ∀ (H : Heap) (locs : List Loc) (ls : Array Slot), St G M s H locs → lv_has ls 5 [] → W p l e (rmM 1 21) s m args below meth c H locs 0 0 Q (F0 m 50 ls [])
  | _ => True
set_option maxHeartbeats 4000000 in
set_option maxRecDepth 100000 in
theorem w_Spe_put_B7 {G : Gl} {p : Program} {l : Launch} {e : Env} {s : State} {m : MethodId} {args : Array Value} {below : List Frame} {meth : Method} {c : Code} {Q : State → Prop} (C : Cx G cX6_put 5 RX6 p s m args c) (a0 : Nat) (a2 : Nat) (x3 : Int32) (k0 : zK a0 = 6) (k2 : zK a2 = 3) (F : Nat) : ∀ (σ : (Int32 × zM)) (q : Nat × (Int32 × zM)), Spe_put_B7 F a0 a2 x3 σ = some q → (E_Spe_put_7 G p l e s m args below meth c Q a0 a2 x3) q.1 q.2 → (E_Spe_put_7 G p l e s m args below meth c Q a0 a2 x3) 0 σ := by
  intro (x4, M) q h hE H locs ls hS hl
  obtain ⟨hx, hb, -⟩ := id C
  unfold Spe_put_B7 at h
  try dsimp only at h
  refine lv_iload hx hb dX6_put_7 (lv_at hl 3 rfl) ?_
  refine lv_iconst (v := 5) hx hb dX6_put_9 (by decide) ?_
  refine lv_icmp_ge (tgt := 50) hx hb dX6_put_10 (by decide) (fun c_3 => ?_) (fun c_3 => ?_)
  · replace h := ifp c_3 h
    obtain rfl := Option.some.inj h
    exact hE _ _ _ hS (lv_sub hl [] rfl)
  · replace h := ifn c_3 h
    refine lv_iload_n hx hb dX6_put_13 rfl (lv_at hl 2 rfl) ?_
    refine lv_if_lt (tgt := 44) hx hb dX6_put_14 (by decide) (fun c_4 => ?_) (fun c_4 => ?_)
    · replace h := ifp c_4 h
      obtain ⟨x4_5, e_6, h⟩ := olt h
      refine lv_iinc (v := x4_5) (lv' := [(4, .int x4_5), (0, .ref (G.1 + a0)), (2, .ref (G.1 + a2)), (3, .int x3)]) hx hb dX6_put_44 hl (k := 3) rfl (by rw [e_6]; rfl) (by decide) rfl (fun ls hl => ?_)
      refine lv_goto (tgt := 7) hx hb dX6_put_47 (by decide) ?_
      obtain rfl := Option.some.inj h
      exact hE _ _ _ hS (lv_sub hl [1, 2, 3, 0] rfl)
    · replace h := ifn c_4 h
      refine lv_iload_n hx hb dX6_put_17 rfl (lv_at hl 2 rfl) ?_
      refine lv_iload hx hb dX6_put_18 (lv_at hl 3 rfl) ?_
      refine lv_iadd hx hb dX6_put_20 ?_
      refine lv_aload_n hx hb dX6_put_21 rfl (lv_at hl 0 rfl) ?_
      refine r_gR C hS fl_X6_15 rfl k0 (zR_6_0 k0) dX6_put_22 ?_
      refine r_alen C hS (v := Int32.ofNat (zN (a0 + 1))) (zKr_6_0 k0) ⟨by decide, by decide⟩ rfl (by rfl) dX6_put_25 ?_
      refine lv_icmp_ge (tgt := 44) hx hb dX6_put_26 (by decide) (fun c_7 => ?_) (fun c_7 => ?_)
      · replace h := ifp c_7 h
        obtain ⟨x4_8, e_9, h⟩ := olt h
        refine lv_iinc (v := x4_8) (lv' := [(4, .int x4_8), (0, .ref (G.1 + a0)), (2, .ref (G.1 + a2)), (3, .int x3)]) hx hb dX6_put_44 hl (k := 3) rfl (by rw [e_9]; rfl) (by decide) rfl (fun ls hl => ?_)
        refine lv_goto (tgt := 7) hx hb dX6_put_47 (by decide) ?_
        obtain rfl := Option.some.inj h
        exact hE _ _ _ hS (lv_sub hl [1, 2, 3, 0] rfl)
      · replace h := ifn c_7 h
        refine lv_aload_n hx hb dX6_put_29 rfl (lv_at hl 0 rfl) ?_
        refine r_gR C hS fl_X6_15 rfl k0 (zR_6_0 k0) dX6_put_30 ?_
        refine lv_iload_n hx hb dX6_put_33 rfl (lv_at hl 2 rfl) ?_
        refine lv_iload hx hb dX6_put_34 (lv_at hl 3 rfl) ?_
        refine lv_iadd hx hb dX6_put_36 ?_
        refine lv_aload_n hx hb dX6_put_37 rfl (lv_at hl 1 rfl) ?_
        refine lv_iload hx hb dX6_put_38 (lv_at hl 3 rfl) ?_
        obtain ⟨⟨r_10, M_11⟩, hq_12, h⟩ := ob h
        try dsimp only at h
        refine r_thenL hS (r_runV C hS hl.1 cv_X6_21 k2 (c_X3_signs l G F a2 x4 M k2 _ hq_12) ⟨by decide, by decide⟩ rfl rfl (Nat.le_of_ble_eq_true rfl) ⟨Nat.zero_le _, Nat.zero_le _⟩ dX6_put_40) (fun H locs hS => ?_)
        obtain ⟨b_13, h⟩ := ift h
        obtain ⟨M_14, e_15, h⟩ := olt h
        refine r_last C hS (zKr_6_0 k0) rfl b_13 e_15 dX6_put_43 (fun H locs hS => ?_)
        obtain ⟨x4_16, e_17, h⟩ := olt h
        refine lv_iinc (v := x4_16) (lv' := [(4, .int x4_16), (0, .ref (G.1 + a0)), (2, .ref (G.1 + a2)), (3, .int x3)]) hx hb dX6_put_44 hl (k := 3) rfl (by rw [e_17]; rfl) (by decide) rfl (fun ls hl => ?_)
        refine lv_goto (tgt := 7) hx hb dX6_put_47 (by decide) ?_
        obtain rfl := Option.some.inj h
        exact hE _ _ _ hS (lv_sub hl [1, 2, 3, 0] rfl)
set_option maxHeartbeats 4000000 in
set_option maxRecDepth 100000 in
theorem c_X6_put (l : Launch) (G : Gl) (F : Nat) (a0 : Nat) (x1 : Int32) (a2 : Nat) (M : zM) (k0 : zK a0 = 6) (k2 : zK a2 = 3) (q : Unit × zM) (h : Spe_put F a0 x1 a2 M = some q) : Met l yX6_put (wsM yX6_put cX6_put 5 none) (rmM 1 21) (Pre G M [.ref (G.1 + a0), .int x1, .ref (G.1 + a2)]) (PoV G q) 0 0 (gA G) := by
  refine r_met (own := RX6) rfl (by decide) (Nat.le_of_ble_eq_true rfl) ?_
  intro p e s m below meth c ls C hr hlk hS hl
  have hl : lv_has ls 5 [(0, .ref (G.1 + a0)), (1, .int x1), (2, .ref (G.1 + a2))] := hl
  obtain ⟨hx, hb, -⟩ := id C
  unfold Spe_put at h
  refine lv_iload_n hx hb dX6_put_0 rfl (lv_at hl 1 rfl) ?_
  refine lv_iconst (v := 5) hx hb dX6_put_1 (by decide) ?_
  refine lv_imul hx hb dX6_put_2 ?_
  obtain ⟨x3_1, e_2, h⟩ := olt h
  refine r_nI e_2 ?_
  refine lv_istore_n (lv' := [(3, .int x3_1), (0, .ref (G.1 + a0)), (1, .int x1), (2, .ref (G.1 + a2))]) hx hb dX6_put_3 rfl hl (by decide) rfl (fun ls hl => ?_)
  refine lv_iconst (v := 0) hx hb dX6_put_4 (by decide) ?_
  refine lv_istore (lv' := [(4, .int 0), (3, .int x3_1), (0, .ref (G.1 + a0)), (1, .int x1), (2, .ref (G.1 + a2))]) hx hb dX6_put_5 hl (by decide) rfl (fun ls hl => ?_)
  obtain ⟨⟨k_20, x4_18, M_19⟩, hq_21, h⟩ := ob h
  try dsimp only at h
  refine loopW (E := (E_Spe_put_7 G p l e s m _ below meth c _ a0 a2 x3_1)) (w_Spe_put_B7 C a0 a2 x3_1 k0 k2 F) F _ _ hq_21 ?_ _ _ _ hS (lv_sub hl [2, 4, 1, 0] rfl)
  by_cases ek_22 : k_20 = 1
  · replace h := ifp ek_22 h
    subst ek_22
    intro H locs ls hS hl
    exact r_vret C hS hr hlk h dX6_put_50
  · replace h := ifn ek_22 h
    cases h
set_option maxHeartbeats 4000000 in
set_option maxRecDepth 100000 in
theorem c_X9_putName (l : Launch) (G : Gl) (F : Nat) (a0 : Nat) (x1 : Int32) (a2 : Nat) (a3 : Nat) (x4 : Int32) (x5 : Int32) (M : zM) (k0 : zK a0 = 9) (k2 : zK a2 = 3) (k3 : zK a3 = 3) (q : Unit × zM) (h : Ton_putName F a0 x1 a2 a3 x4 x5 M = some q) : Met l yX9_putName (wsM yX9_putName cX9_putName 6 none) (rmM 2 45) (Pre G M [.ref (G.1 + a0), .int x1, .ref (G.1 + a2), .ref (G.1 + a3), .int x4, .int x5]) (PoV G q) 0 0 (gA G) := by
  refine r_met (own := RX9) rfl (by decide) (Nat.le_of_ble_eq_true rfl) ?_
  intro p e s m below meth c ls C hr hlk hS hl
  have hl : lv_has ls 6 [(0, .ref (G.1 + a0)), (1, .int x1), (2, .ref (G.1 + a2)), (3, .ref (G.1 + a3)), (4, .int x4), (5, .int x5)] := hl
  obtain ⟨hx, hb, -⟩ := id C
  unfold Ton_putName at h
  refine lv_iload_n hx hb dX9_putName_0 rfl (lv_at hl 1 rfl) ?_
  refine lv_if_lt (tgt := 77) hx hb dX9_putName_1 (by decide) (fun c_1 => ?_) (fun c_1 => ?_)
  · replace h := ifp c_1 h
    exact r_vret C hS hr hlk h dX9_putName_77
  · replace h := ifn c_1 h
    refine lv_iload_n hx hb dX9_putName_4 rfl (lv_at hl 1 rfl) ?_
    refine lv_aload_n hx hb dX9_putName_5 rfl (lv_at hl 0 rfl) ?_
    refine r_gR C hS fl_X9_23 rfl k0 (zR_9_4 k0) dX9_putName_6 ?_
    refine r_alen C hS (v := 1000) (zKr_9_4 k0) ⟨by decide, by decide⟩ (zNr_9_4 k0) (by decide) dX9_putName_9 ?_
    refine lv_icmp_ge (tgt := 77) hx hb dX9_putName_10 (by decide) (fun c_2 => ?_) (fun c_2 => ?_)
    · replace h := ifp c_2 h
      exact r_vret C hS hr hlk h dX9_putName_77
    · replace h := ifn c_2 h
      refine lv_aload_n hx hb dX9_putName_13 rfl (lv_at hl 0 rfl) ?_
      refine r_gR C hS fl_X9_14 rfl k0 (zR_9_2 k0) dX9_putName_14 ?_
      refine lv_iload_n hx hb dX9_putName_17 rfl (lv_at hl 1 rfl) ?_
      refine lv_aload_n hx hb dX9_putName_18 rfl (lv_at hl 2 rfl) ?_
      obtain ⟨⟨_r_3, M_4⟩, hq_5, h⟩ := ob h
      try dsimp only at h
      refine r_thenV hS (r_runV C hS hl.1 cv_X9_62 (zKr_9_2 k0) (c_X6_put l G F (a0 + 1) x1 a2 M (zKr_9_2 k0) k2 _ hq_5) ⟨by decide, by decide⟩ rfl rfl (Nat.le_of_ble_eq_true rfl) ⟨Nat.zero_le _, Nat.zero_le _⟩ dX9_putName_19) (fun H locs hS => ?_)
      refine lv_aload_n hx hb dX9_putName_22 rfl (lv_at hl 0 rfl) ?_
      refine r_gR C hS fl_X9_20 rfl k0 (zR_9_3 k0) dX9_putName_23 ?_
      refine lv_iload_n hx hb dX9_putName_26 rfl (lv_at hl 1 rfl) ?_
      refine lv_aload_n hx hb dX9_putName_27 rfl (lv_at hl 3 rfl) ?_
      obtain ⟨⟨_r_6, M_7⟩, hq_8, h⟩ := ob h
      try dsimp only at h
      refine r_thenV hS (r_runV C hS hl.1 cv_X9_62 (zKr_9_3 k0) (c_X6_put l G F (a0 + 3) x1 a3 M_4 (zKr_9_3 k0) k3 _ hq_8) ⟨by decide, by decide⟩ rfl rfl (Nat.le_of_ble_eq_true rfl) ⟨Nat.zero_le _, Nat.zero_le _⟩ dX9_putName_28) (fun H locs hS => ?_)
      refine lv_aload_n hx hb dX9_putName_31 rfl (lv_at hl 0 rfl) ?_
      refine r_gR C hS fl_X9_23 rfl k0 (zR_9_4 k0) dX9_putName_32 ?_
      refine lv_iload_n hx hb dX9_putName_35 rfl (lv_at hl 1 rfl) ?_
      refine lv_aload_n hx hb dX9_putName_36 rfl (lv_at hl 2 rfl) ?_
      obtain ⟨⟨r_9, M_10⟩, hq_11, h⟩ := ob h
      try dsimp only at h
      refine r_thenI hS (r_runV C hS hl.1 cv_X9_66 k2 (c_X3_size l G F a2 M_7 k2 _ hq_11) ⟨by decide, by decide⟩ rfl rfl (Nat.le_of_ble_eq_true rfl) ⟨Nat.zero_le _, Nat.zero_le _⟩ dX9_putName_37) (fun H locs hS => ?_)
      obtain ⟨b_12, h⟩ := ift h
      obtain ⟨M_13, e_14, h⟩ := olt h
      refine r_iast C hS (zKr_9_4 k0) (zNr_9_4 k0) b_12 e_14 dX9_putName_40 (fun H locs hS => ?_)
      refine lv_aload_n hx hb dX9_putName_41 rfl (lv_at hl 0 rfl) ?_
      refine r_gR C hS fl_X9_27 rfl k0 (zR_9_5 k0) dX9_putName_42 ?_
      refine lv_iload_n hx hb dX9_putName_45 rfl (lv_at hl 1 rfl) ?_
      refine lv_aload_n hx hb dX9_putName_46 rfl (lv_at hl 3 rfl) ?_
      obtain ⟨⟨r_15, M_16⟩, hq_17, h⟩ := ob h
      try dsimp only at h
      refine r_thenI hS (r_runV C hS hl.1 cv_X9_66 k3 (c_X3_size l G F a3 M_13 k3 _ hq_17) ⟨by decide, by decide⟩ rfl rfl (Nat.le_of_ble_eq_true rfl) ⟨Nat.zero_le _, Nat.zero_le _⟩ dX9_putName_47) (fun H locs hS => ?_)
      obtain ⟨M_18, e_19, h⟩ := olt h
      refine r_iast C hS (zKr_9_5 k0) (zNr_9_5 k0) b_12 e_19 dX9_putName_50 (fun H locs hS => ?_)
      refine lv_aload_n hx hb dX9_putName_51 rfl (lv_at hl 0 rfl) ?_
      refine r_gR C hS fl_X9_30 rfl k0 (zR_9_6 k0) dX9_putName_52 ?_
      refine lv_iload_n hx hb dX9_putName_55 rfl (lv_at hl 1 rfl) ?_
      refine lv_iload hx hb dX9_putName_56 (lv_at hl 5 rfl) ?_
      obtain ⟨M_20, e_21, h⟩ := olt h
      refine r_iast C hS (zKr_9_6 k0) (zNr_9_6 k0) b_12 e_21 dX9_putName_58 (fun H locs hS => ?_)
      refine lv_aload_n hx hb dX9_putName_59 rfl (lv_at hl 0 rfl) ?_
      refine r_gR C hS fl_X9_33 rfl k0 (zR_9_7 k0) dX9_putName_60 ?_
      refine lv_iload_n hx hb dX9_putName_63 rfl (lv_at hl 1 rfl) ?_
      refine lv_iload hx hb dX9_putName_64 (lv_at hl 4 rfl) ?_
      obtain ⟨M_22, e_23, h⟩ := olt h
      refine r_iast C hS (zKr_9_7 k0) (zNr_9_7 k0) b_12 e_23 dX9_putName_66 (fun H locs hS => ?_)
      refine lv_aload_n hx hb dX9_putName_67 rfl (lv_at hl 0 rfl) ?_
      refine lv_dup hx hb dX9_putName_68 rfl ?_
      refine r_gI C hS fl_X9_46 rfl k0 dX9_putName_69 ?_
      refine lv_iconst (v := 1) hx hb dX9_putName_72 (by decide) ?_
      refine lv_iadd hx hb dX9_putName_73 ?_
      obtain ⟨M_24, e_25, h⟩ := olt h
      refine r_pI C hS fp_X9_46 rfl k0 e_25 dX9_putName_74 (fun H locs hS => ?_)
      exact r_vret C hS hr hlk h dX9_putName_77
def E_Nam_nameAll_19 (G : Gl) (p : Program) (l : Launch) (e : Env) (s : State) (m : MethodId) (args : Array Value) (below : List Frame) (meth : Method) (c : Code) (Q : State → Prop) (a1 : Nat) : Nat → (Int32 × Int32 × zM) → Prop := fun k (x2, x3, M) => match k with
  | 0 => ∀ (H : Heap) (locs : List Loc) (ls : Array Slot), St G M s H locs → lv_has ls 5 [(0, .ref (G.1 + 44)), (1, .ref (G.1 + a1)), (2, .int x2), (3, .int x3)] → W p l e (rmM 5 122) s m args below meth c H locs 0 0 Q (F0 m 19 ls [])
  | 1 => ∀ (H : Heap) (locs : List Loc) (ls : Array Slot), St G M s H locs → lv_has ls 5 [] → W p l e (rmM 5 122) s m args below meth c H locs 0 0 Q (F0 m 120 ls [])
  | _ => True
def E_Nam_nameAll_34 (G : Gl) (p : Program) (l : Launch) (e : Env) (s : State) (m : MethodId) (args : Array Value) (below : List Frame) (meth : Method) (c : Code) (Q : State → Prop) (a1 : Nat) (x3 : Int32) : Nat → (Int32 × Int32 × zM) → Prop := fun k (x2, x4, M) => match k with
  | 0 => ∀ (H : Heap) (locs : List Loc) (ls : Array Slot), St G M s H locs → lv_has ls 5 [(0, .ref (G.1 + 44)), (1, .ref (G.1 + a1)), (2, .int x2), (3, .int x3), (4, .int x4)] → W p l e (rmM 5 122) s m args below meth c H locs 0 0 Q (F0 m 34 ls [])
  | 1 => ∀ (H : Heap) (locs : List Loc) (ls : Array Slot), St G M s H locs → lv_has ls 5 [(0, .ref (G.1 + 44)), (1, .ref (G.1 + a1)), (2, .int x2), (3, .int x3)] → W p l e (rmM 5 122) s m args below meth c H locs 0 0 Q (F0 m 114 ls [])
  | _ => True
set_option maxHeartbeats 4000000 in
set_option maxRecDepth 100000 in
theorem w_Nam_nameAll_B34 {G : Gl} {p : Program} {l : Launch} {e : Env} {s : State} {m : MethodId} {args : Array Value} {below : List Frame} {meth : Method} {c : Code} {Q : State → Prop} (C : Cx G cX4_nameAll 5 RX4 p s m args c) (a1 : Nat) (x3 : Int32) (k1 : zK a1 = 9) (F : Nat) : ∀ (σ : (Int32 × Int32 × zM)) (q : Nat × (Int32 × Int32 × zM)), Nam_nameAll_B34 F a1 x3 σ = some q → (E_Nam_nameAll_34 G p l e s m args below meth c Q a1 x3) q.1 q.2 → (E_Nam_nameAll_34 G p l e s m args below meth c Q a1 x3) 0 σ := by
  intro (x2, x4, M) q h hE H locs ls hS hl
  obtain ⟨hx, hb, -⟩ := id C
  unfold Nam_nameAll_B34 at h
  try dsimp only at h
  refine lv_iload hx hb dX4_nameAll_34 (lv_at hl 4 rfl) ?_
  refine lv_sipush (v := 1000) hx hb dX4_nameAll_36 (by decide) ?_
  refine lv_icmp_ge (tgt := 114) hx hb dX4_nameAll_39 (by decide) (fun c_12 => ?_) (fun c_12 => ?_)
  · replace h := ifp c_12 h
    obtain rfl := Option.some.inj h
    exact hE _ _ _ hS (lv_sub hl [0, 1, 2, 3] rfl)
  · replace h := ifn c_12 h
    refine lv_aload_n hx hb dX4_nameAll_42 rfl (lv_at hl 0 rfl) ?_
    refine r_gR C hS fl_X4_21 rfl rfl rfl dX4_nameAll_43 ?_
    refine lv_iload hx hb dX4_nameAll_46 (lv_at hl 4 rfl) ?_
    obtain ⟨b_13, h⟩ := ift h
    refine r_iald C hS rfl rfl b_13 dX4_nameAll_48 ?_
    refine lv_iconst (v := (-1)) hx hb dX4_nameAll_49 (by decide) ?_
    refine lv_icmp_eq (tgt := 108) hx hb dX4_nameAll_50 (by decide) (fun c_14 => ?_) (fun c_14 => ?_)
    · replace h := ifp c_14 h
      obtain ⟨x4_15, e_16, h⟩ := olt h
      refine lv_iinc (v := x4_15) (lv' := [(4, .int x4_15), (0, .ref (G.1 + 44)), (1, .ref (G.1 + a1)), (2, .int x2), (3, .int x3)]) hx hb dX4_nameAll_108 hl (k := 4) rfl (by rw [e_16]; rfl) (by decide) rfl (fun ls hl => ?_)
      refine lv_goto (tgt := 34) hx hb dX4_nameAll_111 (by decide) ?_
      obtain rfl := Option.some.inj h
      exact hE _ _ _ hS (lv_sub hl [1, 2, 3, 4, 0] rfl)
    · replace h := ifn c_14 h
      refine lv_aload_n hx hb dX4_nameAll_53 rfl (lv_at hl 1 rfl) ?_
      refine lv_iload hx hb dX4_nameAll_54 (lv_at hl 4 rfl) ?_
      obtain ⟨⟨r_17, M_18⟩, hq_19, h⟩ := ob h
      try dsimp only at h
      refine r_thenI hS (r_runV C hS hl.1 cv_X4_44 k1 (c_X9_has l G F a1 x4 M k1 _ hq_19) ⟨by decide, by decide⟩ rfl rfl (Nat.le_of_ble_eq_true rfl) ⟨Nat.zero_le _, Nat.zero_le _⟩ dX4_nameAll_56) (fun H locs hS => ?_)
      refine lv_if_ne (tgt := 108) hx hb dX4_nameAll_59 (by decide) (fun c_20 => ?_) (fun c_20 => ?_)
      · replace h := ifn c_20 h
        obtain ⟨x4_21, e_22, h⟩ := olt h
        refine lv_iinc (v := x4_21) (lv' := [(4, .int x4_21), (0, .ref (G.1 + 44)), (1, .ref (G.1 + a1)), (2, .int x2), (3, .int x3)]) hx hb dX4_nameAll_108 hl (k := 4) rfl (by rw [e_22]; rfl) (by decide) rfl (fun ls hl => ?_)
        refine lv_goto (tgt := 34) hx hb dX4_nameAll_111 (by decide) ?_
        obtain rfl := Option.some.inj h
        exact hE _ _ _ hS (lv_sub hl [1, 2, 3, 4, 0] rfl)
      · replace h := ifp c_20 h
        refine lv_aload_n hx hb dX4_nameAll_62 rfl (lv_at hl 0 rfl) ?_
        refine lv_aload_n hx hb dX4_nameAll_63 rfl (lv_at hl 1 rfl) ?_
        refine lv_aload_n hx hb dX4_nameAll_64 rfl (lv_at hl 0 rfl) ?_
        refine r_gR C hS fl_X4_21 rfl rfl rfl dX4_nameAll_65 ?_
        refine lv_iload hx hb dX4_nameAll_68 (lv_at hl 4 rfl) ?_
        refine r_iald C hS rfl rfl b_13 dX4_nameAll_70 ?_
        refine lv_iload hx hb dX4_nameAll_71 (lv_at hl 4 rfl) ?_
        obtain ⟨⟨r_23, M_24⟩, hq_25, h⟩ := ob h
        try dsimp only at h
        refine r_thenI hS (r_runV C hS hl.1 cv_X4_48 rfl (c_X4_spell l G F a1 (M_18.1 49 x4.toNatClampNeg) x4 M_18 k1 _ hq_25) ⟨by decide, by decide⟩ rfl rfl (Nat.le_of_ble_eq_true rfl) ⟨Nat.zero_le _, Nat.zero_le _⟩ dX4_nameAll_73) (fun H locs hS => ?_)
        refine lv_if_eq (tgt := 108) hx hb dX4_nameAll_76 (by decide) (fun c_26 => ?_) (fun c_26 => ?_)
        · replace h := ifp c_26 h
          obtain ⟨x4_27, e_28, h⟩ := olt h
          refine lv_iinc (v := x4_27) (lv' := [(4, .int x4_27), (0, .ref (G.1 + 44)), (1, .ref (G.1 + a1)), (2, .int x2), (3, .int x3)]) hx hb dX4_nameAll_108 hl (k := 4) rfl (by rw [e_28]; rfl) (by decide) rfl (fun ls hl => ?_)
          refine lv_goto (tgt := 34) hx hb dX4_nameAll_111 (by decide) ?_
          obtain rfl := Option.some.inj h
          exact hE _ _ _ hS (lv_sub hl [1, 2, 3, 4, 0] rfl)
        · replace h := ifn c_26 h
          refine lv_aload_n hx hb dX4_nameAll_79 rfl (lv_at hl 1 rfl) ?_
          refine lv_iload hx hb dX4_nameAll_80 (lv_at hl 4 rfl) ?_
          refine lv_aload_n hx hb dX4_nameAll_82 rfl (lv_at hl 0 rfl) ?_
          refine r_gR C hS fl_X4_12 rfl rfl rfl dX4_nameAll_83 ?_
          refine lv_aload_n hx hb dX4_nameAll_86 rfl (lv_at hl 0 rfl) ?_
          refine r_gR C hS fl_X4_18 rfl rfl rfl dX4_nameAll_87 ?_
          refine lv_aload_n hx hb dX4_nameAll_90 rfl (lv_at hl 0 rfl) ?_
          refine r_gR C hS fl_X4_21 rfl rfl rfl dX4_nameAll_91 ?_
          refine lv_iload hx hb dX4_nameAll_94 (lv_at hl 4 rfl) ?_
          refine r_iald C hS rfl rfl b_13 dX4_nameAll_96 ?_
          refine lv_aload_n hx hb dX4_nameAll_97 rfl (lv_at hl 0 rfl) ?_
          refine r_gI C hS fl_X4_52 rfl rfl dX4_nameAll_98 ?_
          refine lv_iconst (v := 1) hx hb dX4_nameAll_101 (by decide) ?_
          refine lv_iadd hx hb dX4_nameAll_102 ?_
          obtain ⟨⟨_r_29, M_30⟩, hq_31, h⟩ := ob h
          try dsimp only at h
          refine r_thenV hS (r_runV C hS hl.1 cv_X4_56 k1 (c_X9_putName l G F a1 x4 45 47 (M_24.1 49 x4.toNatClampNeg) ((M_24.1 44 4) + 1) M_24 k1 rfl rfl _ hq_31) ⟨by decide, by decide⟩ rfl rfl (Nat.le_of_ble_eq_true rfl) ⟨Nat.zero_le _, Nat.zero_le _⟩ dX4_nameAll_103) (fun H locs hS => ?_)
          refine lv_iconst (v := 1) hx hb dX4_nameAll_106 (by decide) ?_
          refine lv_istore_n (lv' := [(2, .int 1), (0, .ref (G.1 + 44)), (1, .ref (G.1 + a1)), (3, .int x3), (4, .int x4)]) hx hb dX4_nameAll_107 rfl hl (by decide) rfl (fun ls hl => ?_)
          obtain ⟨x4_32, e_33, h⟩ := olt h
          refine lv_iinc (v := x4_32) (lv' := [(4, .int x4_32), (2, .int 1), (0, .ref (G.1 + 44)), (1, .ref (G.1 + a1)), (3, .int x3)]) hx hb dX4_nameAll_108 hl (k := 4) rfl (by rw [e_33]; rfl) (by decide) rfl (fun ls hl => ?_)
          refine lv_goto (tgt := 34) hx hb dX4_nameAll_111 (by decide) ?_
          obtain rfl := Option.some.inj h
          exact hE _ _ _ hS (lv_sub hl [2, 3, 1, 4, 0] rfl)
set_option maxHeartbeats 4000000 in
set_option maxRecDepth 100000 in
theorem w_Nam_nameAll_B19 {G : Gl} {p : Program} {l : Launch} {e : Env} {s : State} {m : MethodId} {args : Array Value} {below : List Frame} {meth : Method} {c : Code} {Q : State → Prop} (C : Cx G cX4_nameAll 5 RX4 p s m args c) (a1 : Nat) (k1 : zK a1 = 9) (F : Nat) : ∀ (σ : (Int32 × Int32 × zM)) (q : Nat × (Int32 × Int32 × zM)), Nam_nameAll_B19 F a1 σ = some q → (E_Nam_nameAll_19 G p l e s m args below meth c Q a1) q.1 q.2 → (E_Nam_nameAll_19 G p l e s m args below meth c Q a1) 0 σ := by
  intro (x2, x3, M) q h hE H locs ls hS hl
  obtain ⟨hx, hb, -⟩ := id C
  unfold Nam_nameAll_B19 at h
  try dsimp only at h
  refine lv_iload_n hx hb dX4_nameAll_19 rfl (lv_at hl 3 rfl) ?_
  refine lv_bipush (v := 8) hx hb dX4_nameAll_20 (by decide) ?_
  refine lv_icmp_ge (tgt := 120) hx hb dX4_nameAll_22 (by decide) (fun c_10 => ?_) (fun c_10 => ?_)
  · replace h := ifp c_10 h
    obtain rfl := Option.some.inj h
    exact hE _ _ _ hS (lv_sub hl [] rfl)
  · replace h := ifn c_10 h
    refine lv_iload_n hx hb dX4_nameAll_25 rfl (lv_at hl 2 rfl) ?_
    refine lv_if_eq (tgt := 120) hx hb dX4_nameAll_26 (by decide) (fun c_11 => ?_) (fun c_11 => ?_)
    · replace h := ifp c_11 h
      obtain rfl := Option.some.inj h
      exact hE _ _ _ hS (lv_sub hl [] rfl)
    · replace h := ifn c_11 h
      refine lv_iconst (v := 0) hx hb dX4_nameAll_29 (by decide) ?_
      refine lv_istore_n (lv' := [(2, .int 0), (0, .ref (G.1 + 44)), (1, .ref (G.1 + a1)), (3, .int x3)]) hx hb dX4_nameAll_30 rfl hl (by decide) rfl (fun ls hl => ?_)
      refine lv_iconst (v := 0) hx hb dX4_nameAll_31 (by decide) ?_
      refine lv_istore (lv' := [(4, .int 0), (2, .int 0), (0, .ref (G.1 + 44)), (1, .ref (G.1 + a1)), (3, .int x3)]) hx hb dX4_nameAll_32 hl (by decide) rfl (fun ls hl => ?_)
      obtain ⟨⟨k_37, x2_34, x4_35, M_36⟩, hq_38, h⟩ := ob h
      try dsimp only at h
      refine loopW (E := (E_Nam_nameAll_34 G p l e s m _ below meth c _ a1 x3)) (w_Nam_nameAll_B34 C a1 x3 k1 F) F _ _ hq_38 ?_ _ _ _ hS (lv_sub hl [2, 3, 1, 4, 0] rfl)
      by_cases ek_41 : k_37 = 1
      · replace h := ifp ek_41 h
        subst ek_41
        intro H locs ls hS hl
        obtain ⟨x3_39, e_40, h⟩ := olt h
        refine lv_iinc (v := x3_39) (lv' := [(3, .int x3_39), (0, .ref (G.1 + 44)), (1, .ref (G.1 + a1)), (2, .int x2_34)]) hx hb dX4_nameAll_114 hl (k := 3) rfl (by rw [e_40]; rfl) (by decide) rfl (fun ls hl => ?_)
        refine lv_goto (tgt := 19) hx hb dX4_nameAll_117 (by decide) ?_
        obtain rfl := Option.some.inj h
        exact hE _ _ _ hS (lv_sub hl [1, 2, 3, 0] rfl)
      · replace h := ifn ek_41 h
        cases h
set_option maxHeartbeats 4000000 in
set_option maxRecDepth 100000 in
theorem c_X4_nameAll (l : Launch) (G : Gl) (F : Nat) (a1 : Nat) (M : zM) (k1 : zK a1 = 9) (q : Unit × zM) (h : Nam_nameAll F a1 M = some q) : Met l yX4_nameAll (wsM yX4_nameAll cX4_nameAll 5 none) (rmM 5 122) (Pre G M [.ref (G.1 + 44), .ref (G.1 + a1)]) (PoV G q) 0 0 (gA G) := by
  refine r_met (own := RX4) rfl (by decide) (Nat.le_of_ble_eq_true rfl) ?_
  intro p e s m below meth c ls C hr hlk hS hl
  have hl : lv_has ls 5 [(0, .ref (G.1 + 44)), (1, .ref (G.1 + a1))] := hl
  obtain ⟨hx, hb, -⟩ := id C
  unfold Nam_nameAll at h
  refine lv_aload_n hx hb dX4_nameAll_0 rfl (lv_at hl 1 rfl) ?_
  refine lv_aload_n hx hb dX4_nameAll_1 rfl (lv_at hl 0 rfl) ?_
  refine r_gR C hS fl_X4_25 rfl rfl rfl dX4_nameAll_2 ?_
  obtain ⟨⟨r_1, M_2⟩, hq_3, h⟩ := ob h
  try dsimp only at h
  refine r_thenI hS (r_runV C hS hl.1 cv_X4_29 rfl (c_X0_count l G F  M  _ hq_3) ⟨by decide, by decide⟩ rfl rfl (Nat.le_of_ble_eq_true rfl) ⟨Nat.zero_le _, Nat.zero_le _⟩ dX4_nameAll_5) (fun H locs hS => ?_)
  obtain ⟨⟨_r_4, M_5⟩, hq_6, h⟩ := ob h
  try dsimp only at h
  refine r_thenV hS (r_runV C hS hl.1 cv_X4_35 k1 (c_X9_restart l G F a1 r_1 M_2 k1 _ hq_6) ⟨by decide, by decide⟩ rfl rfl (Nat.le_of_ble_eq_true rfl) ⟨Nat.zero_le _, Nat.zero_le _⟩ dX4_nameAll_8) (fun H locs hS => ?_)
  refine lv_aload_n hx hb dX4_nameAll_11 rfl (lv_at hl 0 rfl) ?_
  obtain ⟨⟨_r_7, M_8⟩, hq_9, h⟩ := ob h
  try dsimp only at h
  refine r_thenV hS (r_runV C hS hl.1 cv_X4_41 rfl (c_X4_chooseClauses l G F  M_5  _ hq_9) ⟨by decide, by decide⟩ rfl rfl (Nat.le_of_ble_eq_true rfl) ⟨Nat.zero_le _, Nat.zero_le _⟩ dX4_nameAll_12) (fun H locs hS => ?_)
  refine lv_iconst (v := 1) hx hb dX4_nameAll_15 (by decide) ?_
  refine lv_istore_n (lv' := [(2, .int 1), (0, .ref (G.1 + 44)), (1, .ref (G.1 + a1))]) hx hb dX4_nameAll_16 rfl hl (by decide) rfl (fun ls hl => ?_)
  refine lv_iconst (v := 0) hx hb dX4_nameAll_17 (by decide) ?_
  refine lv_istore_n (lv' := [(3, .int 0), (2, .int 1), (0, .ref (G.1 + 44)), (1, .ref (G.1 + a1))]) hx hb dX4_nameAll_18 rfl hl (by decide) rfl (fun ls hl => ?_)
  obtain ⟨⟨k_45, x2_42, x3_43, M_44⟩, hq_46, h⟩ := ob h
  try dsimp only at h
  refine loopW (E := (E_Nam_nameAll_19 G p l e s m _ below meth c _ a1)) (w_Nam_nameAll_B19 C a1 k1 F) F _ _ hq_46 ?_ _ _ _ hS (lv_sub hl [2, 3, 1, 0] rfl)
  by_cases ek_47 : k_45 = 1
  · replace h := ifp ek_47 h
    subst ek_47
    intro H locs ls hS hl
    exact r_vret C hS hr hlk h dX4_nameAll_120
  · replace h := ifn ek_47 h
    cases h
set_option maxHeartbeats 4000000 in
set_option maxRecDepth 100000 in
theorem c_X5_bench (l : Launch) (G : Gl) (F : Nat)  (M : zM)  (q : Nat × zM) (h : Sor_bench F  M = some q) : Met l yX5_bench (wsM yX5_bench cX5_bench 1 (some (.array .int))) (rmM 0 0) (Pre G M [.ref (G.1 + 50)]) (PoR G q) 0 0 (gA G) := by
  refine r_met (own := RX5) rfl (by decide) (Nat.le_of_ble_eq_true rfl) ?_
  intro p e s m below meth c ls C hr hlk hS hl
  have hl : lv_has ls 1 [(0, .ref (G.1 + 50))] := hl
  obtain ⟨hx, hb, -⟩ := id C
  unfold Sor_bench at h
  refine lv_aload_n hx hb dX5_bench_0 rfl (lv_at hl 0 rfl) ?_
  refine r_gR C hS fl_X5_15 rfl rfl rfl dX5_bench_1 ?_
  exact r_aret C hS hr hlk h dX5_bench_4
set_option maxHeartbeats 4000000 in
set_option maxRecDepth 100000 in
theorem c_J13_compare_74951 (l : Launch) (G : Gl) (F : Nat) (x0 : Int64) (x2 : Int64) (M : zM)  (q : Int32 × zM) (h : JLong_compare F x0 x2 M = some q) : Met l yJ13_compare_74951 (wsM yJ13_compare_74951 cJ13_compare_74951 4 (some .int)) (rmM 0 0) (Pre G M [.long x0, .long x2]) (PoI G q) 0 0 (gA G) := by
  refine r_met (own := RJ13) rfl (by decide) (Nat.le_of_ble_eq_true rfl) ?_
  intro p e s m below meth c ls C hr hlk hS hl
  have hl : lv_has ls 4 [(0, .long x0), (2, .long x2)] := hl
  obtain ⟨hx, hb, -⟩ := id C
  unfold JLong_compare at h
  refine lv_lload_n hx hb dJ13_compare_74951_0 rfl (lv_at hl 0 rfl) ?_
  refine lv_lload_n hx hb dJ13_compare_74951_1 rfl (lv_at hl 1 rfl) ?_
  refine W.lcmp hx hb dJ13_compare_74951_2 ?_
  refine lv_if_ge (tgt := 10) hx hb dJ13_compare_74951_3 (by decide) (fun c_1 => ?_) (fun c_1 => ?_)
  · replace h := ifp c_1 h
    refine lv_lload_n hx hb dJ13_compare_74951_10 rfl (lv_at hl 0 rfl) ?_
    refine lv_lload_n hx hb dJ13_compare_74951_11 rfl (lv_at hl 1 rfl) ?_
    refine W.lcmp hx hb dJ13_compare_74951_12 ?_
    refine lv_if_ne (tgt := 20) hx hb dJ13_compare_74951_13 (by decide) (fun c_2 => ?_) (fun c_2 => ?_)
    · replace h := ifn c_2 h
      refine lv_iconst (v := 1) hx hb dJ13_compare_74951_20 (by decide) ?_
      exact r_iret C hS hr hlk h dJ13_compare_74951_21
    · replace h := ifp c_2 h
      refine lv_iconst (v := 0) hx hb dJ13_compare_74951_16 (by decide) ?_
      refine lv_goto (tgt := 21) hx hb dJ13_compare_74951_17 (by decide) ?_
      exact r_iret C hS hr hlk h dJ13_compare_74951_21
  · replace h := ifn c_1 h
    refine lv_iconst (v := (-1)) hx hb dJ13_compare_74951_6 (by decide) ?_
    refine lv_goto (tgt := 21) hx hb dJ13_compare_74951_7 (by decide) ?_
    exact r_iret C hS hr hlk h dJ13_compare_74951_21
def E_Spe_compare_3 (G : Gl) (p : Program) (l : Launch) (e : Env) (s : State) (m : MethodId) (args : Array Value) (below : List Frame) (meth : Method) (c : Code) (Q : State → Prop) (a0 : Nat) (x1 : Int32) (a2 : Nat) (x3 : Int32) : Nat → (Int32 × Int32 × zM) → Prop := fun k (x4, x5, M) => match k with
  | 0 => ∀ (H : Heap) (locs : List Loc) (ls : Array Slot), St G M s H locs → lv_has ls 6 [(0, .ref (G.1 + a0)), (1, .int x1), (2, .ref (G.1 + a2)), (3, .int x3), (4, .int x4)] → W p l e (rmM 1 23) s m args below meth c H locs 0 0 Q (F0 m 3 ls [])
  | 1 => ∀ (H : Heap) (locs : List Loc) (ls : Array Slot), St G M s H locs → lv_has ls 6 [(5, .int x5)] → W p l e (rmM 1 23) s m args below meth c H locs 0 0 Q (F0 m 33 ls [])
  | 2 => ∀ (H : Heap) (locs : List Loc) (ls : Array Slot), St G M s H locs → lv_has ls 6 [] → W p l e (rmM 1 23) s m args below meth c H locs 0 0 Q (F0 m 42 ls [])
  | _ => True
set_option maxHeartbeats 4000000 in
set_option maxRecDepth 100000 in
theorem w_Spe_compare_B3 {G : Gl} {p : Program} {l : Launch} {e : Env} {s : State} {m : MethodId} {args : Array Value} {below : List Frame} {meth : Method} {c : Code} {Q : State → Prop} (C : Cx G cX6_compare 6 RX6 p s m args c) (a0 : Nat) (x1 : Int32) (a2 : Nat) (x3 : Int32) (k0 : zK a0 = 6) (k2 : zK a2 = 6) (F : Nat) : ∀ (σ : (Int32 × Int32 × zM)) (q : Nat × (Int32 × Int32 × zM)), Spe_compare_B3 F a0 x1 a2 x3 σ = some q → (E_Spe_compare_3 G p l e s m args below meth c Q a0 x1 a2 x3) q.1 q.2 → (E_Spe_compare_3 G p l e s m args below meth c Q a0 x1 a2 x3) 0 σ := by
  intro (x4, x5, M) q h hE H locs ls hS hl
  obtain ⟨hx, hb, -⟩ := id C
  unfold Spe_compare_B3 at h
  try dsimp only at h
  refine lv_iload hx hb dX6_compare_3 (lv_at hl 4 rfl) ?_
  refine lv_iconst (v := 5) hx hb dX6_compare_5 (by decide) ?_
  refine lv_icmp_ge (tgt := 42) hx hb dX6_compare_6 (by decide) (fun c_1 => ?_) (fun c_1 => ?_)
  · replace h := ifp c_1 h
    obtain rfl := Option.some.inj h
    exact hE _ _ _ hS (lv_sub hl [] rfl)
  · replace h := ifn c_1 h
    refine lv_aload_n hx hb dX6_compare_9 rfl (lv_at hl 0 rfl) ?_
    refine lv_iload_n hx hb dX6_compare_10 rfl (lv_at hl 1 rfl) ?_
    refine lv_iload hx hb dX6_compare_11 (lv_at hl 4 rfl) ?_
    obtain ⟨⟨r_2, M_3⟩, hq_4, h⟩ := ob h
    try dsimp only at h
    refine r_thenL hS (r_runV C hS hl.1 cv_X6_25 k0 (c_X6_signs l G F a0 x1 x4 M k0 _ hq_4) ⟨by decide, by decide⟩ rfl rfl (Nat.le_of_ble_eq_true rfl) ⟨Nat.zero_le _, Nat.zero_le _⟩ dX6_compare_13) (fun H locs hS => ?_)
    refine lv_aload_n hx hb dX6_compare_16 rfl (lv_at hl 2 rfl) ?_
    refine lv_iload_n hx hb dX6_compare_17 rfl (lv_at hl 3 rfl) ?_
    refine lv_iload hx hb dX6_compare_18 (lv_at hl 4 rfl) ?_
    obtain ⟨⟨r_5, M_6⟩, hq_7, h⟩ := ob h
    try dsimp only at h
    refine r_thenL hS (r_runV C hS hl.1 cv_X6_25 k2 (c_X6_signs l G F a2 x3 x4 M_3 k2 _ hq_7) ⟨by decide, by decide⟩ rfl rfl (Nat.le_of_ble_eq_true rfl) ⟨Nat.zero_le _, Nat.zero_le _⟩ dX6_compare_20) (fun H locs hS => ?_)
    obtain ⟨⟨r_8, M_9⟩, hq_10, h⟩ := ob h
    try dsimp only at h
    refine r_thenI hS (r_runS C hS hl.1 cs_X6_39 (c_J13_compare_74951 l G F r_2 r_5 M_6  _ hq_10) ⟨by decide, by decide⟩ rfl rfl (Nat.le_of_ble_eq_true rfl) ⟨Nat.zero_le _, Nat.zero_le _⟩ dX6_compare_23) (fun H locs hS => ?_)
    refine lv_istore (lv' := [(5, .int r_8), (0, .ref (G.1 + a0)), (1, .int x1), (2, .ref (G.1 + a2)), (3, .int x3), (4, .int x4)]) hx hb dX6_compare_26 hl (by decide) rfl (fun ls hl => ?_)
    refine lv_iload hx hb dX6_compare_28 (lv_at hl 0 rfl) ?_
    refine lv_if_eq (tgt := 36) hx hb dX6_compare_30 (by decide) (fun c_11 => ?_) (fun c_11 => ?_)
    · replace h := ifp c_11 h
      obtain ⟨x4_12, e_13, h⟩ := olt h
      refine lv_iinc (v := x4_12) (lv' := [(4, .int x4_12), (5, .int r_8), (0, .ref (G.1 + a0)), (1, .int x1), (2, .ref (G.1 + a2)), (3, .int x3)]) hx hb dX6_compare_36 hl (k := 5) rfl (by rw [e_13]; rfl) (by decide) rfl (fun ls hl => ?_)
      refine lv_goto (tgt := 3) hx hb dX6_compare_39 (by decide) ?_
      obtain rfl := Option.some.inj h
      exact hE _ _ _ hS (lv_sub hl [2, 3, 4, 5, 0] rfl)
    · replace h := ifn c_11 h
      obtain rfl := Option.some.inj h
      exact hE _ _ _ hS (lv_sub hl [0] rfl)
set_option maxHeartbeats 4000000 in
set_option maxRecDepth 100000 in
theorem c_X6_compare (l : Launch) (G : Gl) (F : Nat) (a0 : Nat) (x1 : Int32) (a2 : Nat) (x3 : Int32) (M : zM) (k0 : zK a0 = 6) (k2 : zK a2 = 6) (q : Int32 × zM) (h : Spe_compare F a0 x1 a2 x3 M = some q) : Met l yX6_compare (wsM yX6_compare cX6_compare 6 (some .int)) (rmM 1 23) (Pre G M [.ref (G.1 + a0), .int x1, .ref (G.1 + a2), .int x3]) (PoI G q) 0 0 (gA G) := by
  refine r_met (own := RX6) rfl (by decide) (Nat.le_of_ble_eq_true rfl) ?_
  intro p e s m below meth c ls C hr hlk hS hl
  have hl : lv_has ls 6 [(0, .ref (G.1 + a0)), (1, .int x1), (2, .ref (G.1 + a2)), (3, .int x3)] := hl
  obtain ⟨hx, hb, -⟩ := id C
  unfold Spe_compare at h
  refine lv_iconst (v := 0) hx hb dX6_compare_0 (by decide) ?_
  refine lv_istore (lv' := [(4, .int 0), (0, .ref (G.1 + a0)), (1, .int x1), (2, .ref (G.1 + a2)), (3, .int x3)]) hx hb dX6_compare_1 hl (by decide) rfl (fun ls hl => ?_)
  obtain ⟨⟨k_17, x4_14, x5_15, M_16⟩, hq_18, h⟩ := ob h
  try dsimp only at h
  refine loopW (E := (E_Spe_compare_3 G p l e s m _ below meth c _ a0 x1 a2 x3)) (w_Spe_compare_B3 C a0 x1 a2 x3 k0 k2 F) F _ _ hq_18 ?_ _ _ _ hS (lv_sub hl [1, 2, 3, 4, 0] rfl)
  by_cases ek_20 : k_17 = 1
  · replace h := ifp ek_20 h
    subst ek_20
    intro H locs ls hS hl
    refine lv_iload hx hb dX6_compare_33 (lv_at hl 0 rfl) ?_
    exact r_iret C hS hr hlk h dX6_compare_35
  · replace h := ifn ek_20 h
    by_cases ek_19 : k_17 = 2
    · replace h := ifp ek_19 h
      subst ek_19
      intro H locs ls hS hl
      refine lv_iconst (v := 0) hx hb dX6_compare_42 (by decide) ?_
      exact r_iret C hS hr hlk h dX6_compare_43
    · replace h := ifn ek_19 h
      cases h
def E_Sor_merge_22 (G : Gl) (p : Program) (l : Launch) (e : Env) (s : State) (m : MethodId) (args : Array Value) (below : List Frame) (meth : Method) (c : Code) (Q : State → Prop) (a1 : Nat) (x3 : Int32) (x4 : Int32) (a5 : Nat) : Nat → (Int32 × Int32 × Int32 × zM) → Prop := fun k (x6, x7, x8, M) => match k with
  | 0 => ∀ (H : Heap) (locs : List Loc) (ls : Array Slot), St G M s H locs → lv_has ls 9 [(0, .ref (G.1 + 50)), (1, .ref (G.1 + a1)), (3, .int x3), (4, .int x4), (5, .ref (G.1 + a5)), (6, .int x6), (7, .int x7), (8, .int x8)] → W p l e (rmM 2 59) s m args below meth c H locs 0 0 Q (F0 m 22 ls [])
  | 1 => ∀ (H : Heap) (locs : List Loc) (ls : Array Slot), St G M s H locs → lv_has ls 9 [] → W p l e (rmM 2 59) s m args below meth c H locs 0 0 Q (F0 m 97 ls [])
  | _ => True
set_option maxHeartbeats 4000000 in
set_option maxRecDepth 100000 in
theorem w_Sor_merge_J63 {G : Gl} {p : Program} {l : Launch} {e : Env} {s : State} {m : MethodId} {args : Array Value} {below : List Frame} {meth : Method} {c : Code} {Q : State → Prop} (C : Cx G cX5_merge 9 RX5 p s m args c) (a1 : Nat) (x3 : Int32) (x4 : Int32) (a5 : Nat) (k1 : zK a1 = 12) (k5 : zK a5 = 6) (F : Nat) (x6 : Int32) (x7 : Int32) (x8 : Int32) (M : zM)  (q : Nat × (Int32 × Int32 × Int32 × zM)) (h : Sor_merge_J63 F a1 x3 x4 a5 x6 x7 x8 M = some q) (hE : (E_Sor_merge_22 G p l e s m args below meth c Q a1 x3 x4 a5) q.1 q.2) (H : Heap) (locs : List Loc) (ls : Array Slot) (hS : St G M s H locs) (hl : lv_has ls 9 [(0, .ref (G.1 + 50)), (1, .ref (G.1 + a1)), (3, .int x3), (4, .int x4), (5, .ref (G.1 + a5)), (6, .int x6), (7, .int x7), (8, .int x8)]) : W p l e (rmM 2 59) s m args below meth c H locs 0 0 Q (F0 m 63 ls []) := by
  obtain ⟨hx, hb, -⟩ := id C
  unfold Sor_merge_J63 at h
  refine lv_aload_n hx hb dX5_merge_63 rfl (lv_at hl 1 rfl) ?_
  refine lv_iload hx hb dX5_merge_64 (lv_at hl 7 rfl) ?_
  refine lv_aload_n hx hb dX5_merge_66 rfl (lv_at hl 0 rfl) ?_
  refine r_gR C hS fl_X5_9 rfl rfl rfl dX5_merge_67 ?_
  refine lv_iload hx hb dX5_merge_70 (lv_at hl 5 rfl) ?_
  obtain ⟨x6_7, e_8, h⟩ := olt h
  refine lv_iinc (v := x6_7) (lv' := [(6, .int x6_7), (0, .ref (G.1 + 50)), (1, .ref (G.1 + a1)), (3, .int x3), (4, .int x4), (5, .ref (G.1 + a5)), (7, .int x7), (8, .int x8)]) hx hb dX5_merge_72 hl (k := 5) rfl (by rw [e_8]; rfl) (by decide) rfl (fun ls hl => ?_)
  obtain ⟨b_9, h⟩ := ift h
  refine r_iald C hS rfl rfl b_9 dX5_merge_75 ?_
  obtain ⟨b_10, h⟩ := ift h
  obtain ⟨M_11, e_12, h⟩ := olt h
  refine r_iast C hS k1 rfl b_10 e_12 dX5_merge_76 (fun H locs hS => ?_)
  refine lv_goto (tgt := 91) hx hb dX5_merge_77 (by decide) ?_
  obtain ⟨x8_13, e_14, h⟩ := olt h
  refine lv_iinc (v := x8_13) (lv' := [(8, .int x8_13), (6, .int x6_7), (0, .ref (G.1 + 50)), (1, .ref (G.1 + a1)), (3, .int x3), (4, .int x4), (5, .ref (G.1 + a5)), (7, .int x7)]) hx hb dX5_merge_91 hl (k := 7) rfl (by rw [e_14]; rfl) (by decide) rfl (fun ls hl => ?_)
  refine lv_goto (tgt := 22) hx hb dX5_merge_94 (by decide) ?_
  obtain rfl := Option.some.inj h
  exact hE _ _ _ hS (lv_sub hl [2, 3, 4, 5, 6, 1, 7, 0] rfl)
set_option maxHeartbeats 4000000 in
set_option maxRecDepth 100000 in
theorem w_Sor_merge_B22 {G : Gl} {p : Program} {l : Launch} {e : Env} {s : State} {m : MethodId} {args : Array Value} {below : List Frame} {meth : Method} {c : Code} {Q : State → Prop} (C : Cx G cX5_merge 9 RX5 p s m args c) (a1 : Nat) (x3 : Int32) (x4 : Int32) (a5 : Nat) (k1 : zK a1 = 12) (k5 : zK a5 = 6) (F : Nat) : ∀ (σ : (Int32 × Int32 × Int32 × zM)) (q : Nat × (Int32 × Int32 × Int32 × zM)), Sor_merge_B22 F a1 x3 x4 a5 σ = some q → (E_Sor_merge_22 G p l e s m args below meth c Q a1 x3 x4 a5) q.1 q.2 → (E_Sor_merge_22 G p l e s m args below meth c Q a1 x3 x4 a5) 0 σ := by
  intro (x6, x7, x8, M) q h hE H locs ls hS hl
  obtain ⟨hx, hb, -⟩ := id C
  unfold Sor_merge_B22 at h
  try dsimp only at h
  refine lv_iload hx hb dX5_merge_22 (lv_at hl 7 rfl) ?_
  refine lv_iload hx hb dX5_merge_24 (lv_at hl 3 rfl) ?_
  refine lv_icmp_ge (tgt := 97) hx hb dX5_merge_26 (by decide) (fun c_4 => ?_) (fun c_4 => ?_)
  · replace h := ifp c_4 h
    obtain rfl := Option.some.inj h
    exact hE _ _ _ hS (lv_sub hl [] rfl)
  · replace h := ifn c_4 h
    refine lv_iload hx hb dX5_merge_29 (lv_at hl 5 rfl) ?_
    refine lv_iload_n hx hb dX5_merge_31 rfl (lv_at hl 2 rfl) ?_
    refine lv_icmp_ge (tgt := 97) hx hb dX5_merge_32 (by decide) (fun c_5 => ?_) (fun c_5 => ?_)
    · replace h := ifp c_5 h
      obtain rfl := Option.some.inj h
      exact hE _ _ _ hS (lv_sub hl [] rfl)
    · replace h := ifn c_5 h
      refine lv_iload hx hb dX5_merge_35 (lv_at hl 6 rfl) ?_
      refine lv_iload hx hb dX5_merge_37 (lv_at hl 3 rfl) ?_
      refine lv_icmp_ge (tgt := 63) hx hb dX5_merge_39 (by decide) (fun c_6 => ?_) (fun c_6 => ?_)
      · replace h := ifp c_6 h
        exact w_Sor_merge_J63 C a1 x3 x4 a5 k1 k5 F x6 x7 x8 M  q h hE _ _ _ hS (lv_sub hl [0, 1, 2, 3, 4, 5, 6, 7] rfl)
      · replace h := ifn c_6 h
        refine lv_aload hx hb dX5_merge_42 (lv_at hl 4 rfl) ?_
        refine lv_aload_n hx hb dX5_merge_44 rfl (lv_at hl 0 rfl) ?_
        refine r_gR C hS fl_X5_9 rfl rfl rfl dX5_merge_45 ?_
        refine lv_iload hx hb dX5_merge_48 (lv_at hl 5 rfl) ?_
        obtain ⟨b_15, h⟩ := ift h
        refine r_iald C hS rfl rfl b_15 dX5_merge_50 ?_
        refine lv_aload hx hb dX5_merge_51 (lv_at hl 4 rfl) ?_
        refine lv_aload_n hx hb dX5_merge_53 rfl (lv_at hl 1 rfl) ?_
        refine lv_iload hx hb dX5_merge_54 (lv_at hl 6 rfl) ?_
        obtain ⟨b_16, h⟩ := ift h
        refine r_iald C hS k1 rfl b_16 dX5_merge_56 ?_
        obtain ⟨⟨r_17, M_18⟩, hq_19, h⟩ := ob h
        try dsimp only at h
        refine r_thenI hS (r_runV C hS hl.1 cv_X5_34 k5 (c_X6_compare l G F a5 (M.1 51 x6.toNatClampNeg) a5 (M.1 a1 x7.toNatClampNeg) M k5 k5 _ hq_19) ⟨by decide, by decide⟩ rfl rfl (Nat.le_of_ble_eq_true rfl) ⟨Nat.zero_le _, Nat.zero_le _⟩ dX5_merge_57) (fun H locs hS => ?_)
        refine lv_if_gt (tgt := 80) hx hb dX5_merge_60 (by decide) (fun c_20 => ?_) (fun c_20 => ?_)
        · replace h := ifp c_20 h
          refine lv_aload_n hx hb dX5_merge_80 rfl (lv_at hl 1 rfl) ?_
          refine lv_iload hx hb dX5_merge_81 (lv_at hl 7 rfl) ?_
          refine lv_aload_n hx hb dX5_merge_83 rfl (lv_at hl 1 rfl) ?_
          refine lv_iload hx hb dX5_merge_84 (lv_at hl 6 rfl) ?_
          obtain ⟨x7_21, e_22, h⟩ := olt h
          refine lv_iinc (v := x7_21) (lv' := [(7, .int x7_21), (0, .ref (G.1 + 50)), (1, .ref (G.1 + a1)), (3, .int x3), (4, .int x4), (5, .ref (G.1 + a5)), (6, .int x6), (8, .int x8)]) hx hb dX5_merge_86 hl (k := 6) rfl (by rw [e_22]; rfl) (by decide) rfl (fun ls hl => ?_)
          refine r_iald C hS k1 rfl b_16 dX5_merge_89 ?_
          obtain ⟨b_23, h⟩ := ift h
          obtain ⟨M_24, e_25, h⟩ := olt h
          refine r_iast C hS k1 rfl b_23 e_25 dX5_merge_90 (fun H locs hS => ?_)
          obtain ⟨x8_26, e_27, h⟩ := olt h
          refine lv_iinc (v := x8_26) (lv' := [(8, .int x8_26), (7, .int x7_21), (0, .ref (G.1 + 50)), (1, .ref (G.1 + a1)), (3, .int x3), (4, .int x4), (5, .ref (G.1 + a5)), (6, .int x6)]) hx hb dX5_merge_91 hl (k := 7) rfl (by rw [e_27]; rfl) (by decide) rfl (fun ls hl => ?_)
          refine lv_goto (tgt := 22) hx hb dX5_merge_94 (by decide) ?_
          obtain rfl := Option.some.inj h
          exact hE _ _ _ hS (lv_sub hl [2, 3, 4, 5, 6, 7, 1, 0] rfl)
        · replace h := ifn c_20 h
          exact w_Sor_merge_J63 C a1 x3 x4 a5 k1 k5 F x6 x7 x8 M_18  q h hE _ _ _ hS (lv_sub hl [0, 1, 2, 3, 4, 5, 6, 7] rfl)
set_option maxHeartbeats 4000000 in
set_option maxRecDepth 100000 in
theorem c_X5_merge (l : Launch) (G : Gl) (F : Nat) (a1 : Nat) (x2 : Int32) (x3 : Int32) (x4 : Int32) (a5 : Nat) (M : zM) (k1 : zK a1 = 12) (k5 : zK a5 = 6) (q : Unit × zM) (h : Sor_merge F a1 x2 x3 x4 a5 M = some q) : Met l yX5_merge (wsM yX5_merge cX5_merge 9 none) (rmM 2 59) (Pre G M [.ref (G.1 + 50), .ref (G.1 + a1), .int x2, .int x3, .int x4, .ref (G.1 + a5)]) (PoV G q) 0 0 (gA G) := by
  refine r_met (own := RX5) rfl (by decide) (Nat.le_of_ble_eq_true rfl) ?_
  intro p e s m below meth c ls C hr hlk hS hl
  have hl : lv_has ls 9 [(0, .ref (G.1 + 50)), (1, .ref (G.1 + a1)), (2, .int x2), (3, .int x3), (4, .int x4), (5, .ref (G.1 + a5))] := hl
  obtain ⟨hx, hb, -⟩ := id C
  unfold Sor_merge at h
  refine lv_aload_n hx hb dX5_merge_0 rfl (lv_at hl 1 rfl) ?_
  refine lv_iload_n hx hb dX5_merge_1 rfl (lv_at hl 2 rfl) ?_
  refine lv_aload_n hx hb dX5_merge_2 rfl (lv_at hl 0 rfl) ?_
  refine r_gR C hS fl_X5_9 rfl rfl rfl dX5_merge_3 ?_
  refine lv_iload_n hx hb dX5_merge_6 rfl (lv_at hl 2 rfl) ?_
  refine lv_iload_n hx hb dX5_merge_7 rfl (lv_at hl 3 rfl) ?_
  refine lv_iload_n hx hb dX5_merge_8 rfl (lv_at hl 2 rfl) ?_
  refine lv_isub hx hb dX5_merge_9 ?_
  obtain ⟨b_1, h⟩ := ift h
  obtain ⟨M_2, e_3, h⟩ := olt h
  refine r_copy C hS hl.1 k1 rfl rfl rfl b_1 e_3 (by decide) (Nat.le_of_ble_eq_true rfl) dX5_merge_10 (fun H locs hS => ?_)
  refine lv_iload_n hx hb dX5_merge_13 rfl (lv_at hl 2 rfl) ?_
  refine lv_istore (lv' := [(6, .int x2), (0, .ref (G.1 + 50)), (1, .ref (G.1 + a1)), (2, .int x2), (3, .int x3), (4, .int x4), (5, .ref (G.1 + a5))]) hx hb dX5_merge_14 hl (by decide) rfl (fun ls hl => ?_)
  refine lv_iload_n hx hb dX5_merge_16 rfl (lv_at hl 4 rfl) ?_
  refine lv_istore (lv' := [(7, .int x3), (6, .int x2), (0, .ref (G.1 + 50)), (1, .ref (G.1 + a1)), (2, .int x2), (3, .int x3), (4, .int x4), (5, .ref (G.1 + a5))]) hx hb dX5_merge_17 hl (by decide) rfl (fun ls hl => ?_)
  refine lv_iload_n hx hb dX5_merge_19 rfl (lv_at hl 4 rfl) ?_
  refine lv_istore (lv' := [(8, .int x2), (7, .int x3), (6, .int x2), (0, .ref (G.1 + 50)), (1, .ref (G.1 + a1)), (2, .int x2), (3, .int x3), (4, .int x4), (5, .ref (G.1 + a5))]) hx hb dX5_merge_20 hl (by decide) rfl (fun ls hl => ?_)
  obtain ⟨⟨k_32, x6_28, x7_29, x8_30, M_31⟩, hq_33, h⟩ := ob h
  try dsimp only at h
  refine loopW (E := (E_Sor_merge_22 G p l e s m _ below meth c _ a1 x3 x4 a5)) (w_Sor_merge_B22 C a1 x3 x4 a5 k1 k5 F) F _ _ hq_33 ?_ _ _ _ hS (lv_sub hl [3, 4, 6, 7, 8, 2, 1, 0] rfl)
  by_cases ek_34 : k_32 = 1
  · replace h := ifp ek_34 h
    subst ek_34
    intro H locs ls hS hl
    exact r_vret C hS hr hlk h dX5_merge_97
  · replace h := ifn ek_34 h
    cases h
def E_Sor_sort_17 (G : Gl) (p : Program) (l : Launch) (e : Env) (s : State) (m : MethodId) (args : Array Value) (below : List Frame) (meth : Method) (c : Code) (Q : State → Prop) (a1 : Nat) (a3 : Nat) (x4 : Int32) : Nat → (Int32 × zM) → Prop := fun k (x5, M) => match k with
  | 0 => ∀ (H : Heap) (locs : List Loc) (ls : Array Slot), St G M s H locs → lv_has ls 7 [(0, .ref (G.1 + 50)), (1, .ref (G.1 + a1)), (3, .ref (G.1 + a3)), (4, .int x4), (5, .int x5)] → W p l e (rmM 3 87) s m args below meth c H locs 0 0 Q (F0 m 17 ls [])
  | 1 => ∀ (H : Heap) (locs : List Loc) (ls : Array Slot), St G M s H locs → lv_has ls 7 [] → W p l e (rmM 3 87) s m args below meth c H locs 0 0 Q (F0 m 86 ls [])
  | _ => True
def E_Sor_sort_27 (G : Gl) (p : Program) (l : Launch) (e : Env) (s : State) (m : MethodId) (args : Array Value) (below : List Frame) (meth : Method) (c : Code) (Q : State → Prop) (a1 : Nat) (a3 : Nat) (x4 : Int32) (x5 : Int32) : Nat → (Int32 × zM) → Prop := fun k (x6, M) => match k with
  | 0 => ∀ (H : Heap) (locs : List Loc) (ls : Array Slot), St G M s H locs → lv_has ls 7 [(0, .ref (G.1 + 50)), (1, .ref (G.1 + a1)), (3, .ref (G.1 + a3)), (4, .int x4), (5, .int x5), (6, .int x6)] → W p l e (rmM 3 87) s m args below meth c H locs 0 0 Q (F0 m 27 ls [])
  | 1 => ∀ (H : Heap) (locs : List Loc) (ls : Array Slot), St G M s H locs → lv_has ls 7 [(0, .ref (G.1 + 50)), (1, .ref (G.1 + a1)), (3, .ref (G.1 + a3)), (4, .int x4), (5, .int x5)] → W p l e (rmM 3 87) s m args below meth c H locs 0 0 Q (F0 m 76 ls [])
  | _ => True
set_option maxHeartbeats 4000000 in
set_option maxRecDepth 100000 in
theorem w_Sor_sort_B27 {G : Gl} {p : Program} {l : Launch} {e : Env} {s : State} {m : MethodId} {args : Array Value} {below : List Frame} {meth : Method} {c : Code} {Q : State → Prop} (C : Cx G cX5_sort 7 RX5 p s m args c) (a1 : Nat) (a3 : Nat) (x4 : Int32) (x5 : Int32) (k1 : zK a1 = 12) (k3 : zK a3 = 6) (F : Nat) : ∀ (σ : (Int32 × zM)) (q : Nat × (Int32 × zM)), Sor_sort_B27 F a1 a3 x4 x5 σ = some q → (E_Sor_sort_27 G p l e s m args below meth c Q a1 a3 x4 x5) q.1 q.2 → (E_Sor_sort_27 G p l e s m args below meth c Q a1 a3 x4 x5) 0 σ := by
  intro (x6, M) q h hE H locs ls hS hl
  obtain ⟨hx, hb, -⟩ := id C
  unfold Sor_sort_B27 at h
  try dsimp only at h
  refine lv_iload hx hb dX5_sort_27 (lv_at hl 5 rfl) ?_
  refine lv_iload hx hb dX5_sort_29 (lv_at hl 4 rfl) ?_
  refine lv_iadd hx hb dX5_sort_31 ?_
  refine lv_iload hx hb dX5_sort_32 (lv_at hl 3 rfl) ?_
  refine lv_icmp_ge (tgt := 76) hx hb dX5_sort_34 (by decide) (fun c_4 => ?_) (fun c_4 => ?_)
  · replace h := ifp c_4 h
    obtain rfl := Option.some.inj h
    exact hE _ _ _ hS (lv_sub hl [0, 1, 2, 3, 4] rfl)
  · replace h := ifn c_4 h
    refine lv_aload_n hx hb dX5_sort_37 rfl (lv_at hl 0 rfl) ?_
    refine lv_aload_n hx hb dX5_sort_38 rfl (lv_at hl 1 rfl) ?_
    refine lv_iload hx hb dX5_sort_39 (lv_at hl 5 rfl) ?_
    refine lv_iload hx hb dX5_sort_41 (lv_at hl 5 rfl) ?_
    refine lv_iload hx hb dX5_sort_43 (lv_at hl 4 rfl) ?_
    refine lv_iadd hx hb dX5_sort_45 ?_
    refine lv_iload hx hb dX5_sort_46 (lv_at hl 5 rfl) ?_
    refine lv_iload hx hb dX5_sort_48 (lv_at hl 4 rfl) ?_
    refine lv_iadd hx hb dX5_sort_50 ?_
    refine lv_iload hx hb dX5_sort_51 (lv_at hl 4 rfl) ?_
    refine lv_iadd hx hb dX5_sort_53 ?_
    refine lv_iload hx hb dX5_sort_54 (lv_at hl 3 rfl) ?_
    refine r_jmn C hl.1 tw_712 (by decide) (Nat.le_of_ble_eq_true rfl) ⟨Nat.zero_le _, Nat.zero_le _⟩ dX5_sort_56 ?_
    refine lv_aload_n hx hb dX5_sort_59 rfl (lv_at hl 2 rfl) ?_
    obtain ⟨⟨_r_5, M_6⟩, hq_7, h⟩ := ob h
    try dsimp only at h
    refine r_thenV hS (r_runV C hS hl.1 cv_X5_24 rfl (c_X5_merge l G F a1 x6 (x6 + x5) (jmn ((x6 + x5) + x5) x4) a3 M k1 k3 _ hq_7) ⟨by decide, by decide⟩ rfl rfl (Nat.le_of_ble_eq_true rfl) ⟨Nat.zero_le _, Nat.zero_le _⟩ dX5_sort_60) (fun H locs hS => ?_)
    refine lv_iload hx hb dX5_sort_63 (lv_at hl 5 rfl) ?_
    refine lv_iload hx hb dX5_sort_65 (lv_at hl 4 rfl) ?_
    refine lv_iload hx hb dX5_sort_67 (lv_at hl 4 rfl) ?_
    refine lv_iadd hx hb dX5_sort_69 ?_
    refine lv_iadd hx hb dX5_sort_70 ?_
    obtain ⟨x6_8, e_9, h⟩ := olt h
    refine r_nI e_9 ?_
    refine lv_istore (lv' := [(6, .int x6_8), (0, .ref (G.1 + 50)), (1, .ref (G.1 + a1)), (3, .ref (G.1 + a3)), (4, .int x4), (5, .int x5)]) hx hb dX5_sort_71 hl (by decide) rfl (fun ls hl => ?_)
    refine lv_goto (tgt := 27) hx hb dX5_sort_73 (by decide) ?_
    obtain rfl := Option.some.inj h
    exact hE _ _ _ hS (lv_sub hl [1, 2, 3, 4, 5, 0] rfl)
set_option maxHeartbeats 4000000 in
set_option maxRecDepth 100000 in
theorem w_Sor_sort_B17 {G : Gl} {p : Program} {l : Launch} {e : Env} {s : State} {m : MethodId} {args : Array Value} {below : List Frame} {meth : Method} {c : Code} {Q : State → Prop} (C : Cx G cX5_sort 7 RX5 p s m args c) (a1 : Nat) (a3 : Nat) (x4 : Int32) (k1 : zK a1 = 12) (k3 : zK a3 = 6) (F : Nat) : ∀ (σ : (Int32 × zM)) (q : Nat × (Int32 × zM)), Sor_sort_B17 F a1 a3 x4 σ = some q → (E_Sor_sort_17 G p l e s m args below meth c Q a1 a3 x4) q.1 q.2 → (E_Sor_sort_17 G p l e s m args below meth c Q a1 a3 x4) 0 σ := by
  intro (x5, M) q h hE H locs ls hS hl
  obtain ⟨hx, hb, -⟩ := id C
  unfold Sor_sort_B17 at h
  try dsimp only at h
  refine lv_iload hx hb dX5_sort_17 (lv_at hl 4 rfl) ?_
  refine lv_iload hx hb dX5_sort_19 (lv_at hl 3 rfl) ?_
  refine lv_icmp_ge (tgt := 86) hx hb dX5_sort_21 (by decide) (fun c_3 => ?_) (fun c_3 => ?_)
  · replace h := ifp c_3 h
    obtain rfl := Option.some.inj h
    exact hE _ _ _ hS (lv_sub hl [] rfl)
  · replace h := ifn c_3 h
    refine lv_iconst (v := 0) hx hb dX5_sort_24 (by decide) ?_
    refine lv_istore (lv' := [(6, .int 0), (0, .ref (G.1 + 50)), (1, .ref (G.1 + a1)), (3, .ref (G.1 + a3)), (4, .int x4), (5, .int x5)]) hx hb dX5_sort_25 hl (by decide) rfl (fun ls hl => ?_)
    obtain ⟨⟨k_12, x6_10, M_11⟩, hq_13, h⟩ := ob h
    try dsimp only at h
    refine loopW (E := (E_Sor_sort_27 G p l e s m _ below meth c _ a1 a3 x4 x5)) (w_Sor_sort_B27 C a1 a3 x4 x5 k1 k3 F) F _ _ hq_13 ?_ _ _ _ hS (lv_sub hl [1, 2, 3, 4, 5, 0] rfl)
    by_cases ek_16 : k_12 = 1
    · replace h := ifp ek_16 h
      subst ek_16
      intro H locs ls hS hl
      refine lv_iload hx hb dX5_sort_76 (lv_at hl 4 rfl) ?_
      refine lv_iload hx hb dX5_sort_78 (lv_at hl 4 rfl) ?_
      refine lv_iadd hx hb dX5_sort_80 ?_
      obtain ⟨x5_14, e_15, h⟩ := olt h
      refine r_nI e_15 ?_
      refine lv_istore (lv' := [(5, .int x5_14), (0, .ref (G.1 + 50)), (1, .ref (G.1 + a1)), (3, .ref (G.1 + a3)), (4, .int x4)]) hx hb dX5_sort_81 hl (by decide) rfl (fun ls hl => ?_)
      refine lv_goto (tgt := 17) hx hb dX5_sort_83 (by decide) ?_
      obtain rfl := Option.some.inj h
      exact hE _ _ _ hS (lv_sub hl [1, 2, 3, 4, 0] rfl)
    · replace h := ifn ek_16 h
      cases h
set_option maxHeartbeats 4000000 in
set_option maxRecDepth 100000 in
theorem c_X5_sort (l : Launch) (G : Gl) (F : Nat) (a1 : Nat) (x2 : Int32) (a3 : Nat) (M : zM) (k1 : zK a1 = 12) (k3 : zK a3 = 6) (q : Unit × zM) (h : Sor_sort F a1 x2 a3 M = some q) : Met l yX5_sort (wsM yX5_sort cX5_sort 7 none) (rmM 3 87) (Pre G M [.ref (G.1 + 50), .ref (G.1 + a1), .int x2, .ref (G.1 + a3)]) (PoV G q) 0 0 (gA G) := by
  refine r_met (own := RX5) rfl (by decide) (Nat.le_of_ble_eq_true rfl) ?_
  intro p e s m below meth c ls C hr hlk hS hl
  have hl : lv_has ls 7 [(0, .ref (G.1 + 50)), (1, .ref (G.1 + a1)), (2, .int x2), (3, .ref (G.1 + a3))] := hl
  obtain ⟨hx, hb, -⟩ := id C
  unfold Sor_sort at h
  refine lv_iload_n hx hb dX5_sort_0 rfl (lv_at hl 2 rfl) ?_
  refine lv_aload_n hx hb dX5_sort_1 rfl (lv_at hl 1 rfl) ?_
  refine r_alen C hS (v := Int32.ofNat (zN a1)) k1 ⟨by decide, by decide⟩ rfl (by rfl) dX5_sort_2 ?_
  refine lv_sipush (v := 1000) hx hb dX5_sort_3 (by decide) ?_
  refine r_jmn C hl.1 tw_712 (by decide) (Nat.le_of_ble_eq_true rfl) ⟨Nat.zero_le _, Nat.zero_le _⟩ dX5_sort_6 ?_
  refine r_jmn C hl.1 tw_712 (by decide) (Nat.le_of_ble_eq_true rfl) ⟨Nat.zero_le _, Nat.zero_le _⟩ dX5_sort_9 ?_
  obtain ⟨x4_1, e_2, h⟩ := olt h
  refine r_nI e_2 ?_
  refine lv_istore (lv' := [(4, .int x4_1), (0, .ref (G.1 + 50)), (1, .ref (G.1 + a1)), (2, .int x2), (3, .ref (G.1 + a3))]) hx hb dX5_sort_12 hl (by decide) rfl (fun ls hl => ?_)
  refine lv_iconst (v := 1) hx hb dX5_sort_14 (by decide) ?_
  refine lv_istore (lv' := [(5, .int 1), (4, .int x4_1), (0, .ref (G.1 + 50)), (1, .ref (G.1 + a1)), (2, .int x2), (3, .ref (G.1 + a3))]) hx hb dX5_sort_15 hl (by decide) rfl (fun ls hl => ?_)
  obtain ⟨⟨k_19, x5_17, M_18⟩, hq_20, h⟩ := ob h
  try dsimp only at h
  refine loopW (E := (E_Sor_sort_17 G p l e s m _ below meth c _ a1 a3 x4_1)) (w_Sor_sort_B17 C a1 a3 x4_1 k1 k3 F) F _ _ hq_20 ?_ _ _ _ hS (lv_sub hl [2, 3, 5, 1, 0] rfl)
  by_cases ek_21 : k_19 = 1
  · replace h := ifp ek_21 h
    subst ek_21
    intro H locs ls hS hl
    exact r_vret C hS hr hlk h dX5_sort_86
  · replace h := ifn ek_21 h
    cases h
set_option maxHeartbeats 4000000 in
set_option maxRecDepth 100000 in
theorem c_X6_byteAt (l : Launch) (G : Gl) (F : Nat) (a0 : Nat) (x1 : Int32) (x2 : Int32) (M : zM) (k0 : zK a0 = 6) (q : Int32 × zM) (h : Spe_byteAt F a0 x1 x2 M = some q) : Met l yX6_byteAt (wsM yX6_byteAt cX6_byteAt 5 (some .int)) (rmM 1 23) (Pre G M [.ref (G.1 + a0), .int x1, .int x2]) (PoI G q) 0 0 (gA G) := by
  refine r_met (own := RX6) rfl (by decide) (Nat.le_of_ble_eq_true rfl) ?_
  intro p e s m below meth c ls C hr hlk hS hl
  have hl : lv_has ls 5 [(0, .ref (G.1 + a0)), (1, .int x1), (2, .int x2)] := hl
  obtain ⟨hx, hb, -⟩ := id C
  unfold Spe_byteAt at h
  refine lv_aload_n hx hb dX6_byteAt_0 rfl (lv_at hl 0 rfl) ?_
  refine lv_iload_n hx hb dX6_byteAt_1 rfl (lv_at hl 1 rfl) ?_
  refine lv_iload_n hx hb dX6_byteAt_2 rfl (lv_at hl 2 rfl) ?_
  refine lv_bipush (v := 12) hx hb dX6_byteAt_3 (by decide) ?_
  refine lv_idiv hx hb dX6_byteAt_5 (by decide) ?_
  obtain ⟨⟨r_1, M_2⟩, hq_3, h⟩ := ob h
  try dsimp only at h
  refine r_thenL hS (r_runV C hS hl.1 cv_X6_25 k0 (c_X6_signs l G F a0 x1 (x2 / 12) M k0 _ hq_3) ⟨by decide, by decide⟩ rfl rfl (Nat.le_of_ble_eq_true rfl) ⟨Nat.zero_le _, Nat.zero_le _⟩ dX6_byteAt_6) (fun H locs hS => ?_)
  refine lv_lstore_n (lv' := [(3, .long r_1), (0, .ref (G.1 + a0)), (1, .int x1), (2, .int x2)]) hx hb dX6_byteAt_9 rfl hl (by decide) rfl (fun ls hl => ?_)
  refine lv_lload_n hx hb dX6_byteAt_10 rfl (lv_at hl 0 rfl) ?_
  refine lv_bipush (v := 55) hx hb dX6_byteAt_11 (by decide) ?_
  refine lv_iconst (v := 5) hx hb dX6_byteAt_13 (by decide) ?_
  refine lv_iload_n hx hb dX6_byteAt_14 rfl (lv_at hl 3 rfl) ?_
  refine lv_bipush (v := 12) hx hb dX6_byteAt_15 (by decide) ?_
  refine lv_irem hx hb dX6_byteAt_17 (by decide) ?_
  refine lv_imul hx hb dX6_byteAt_18 ?_
  refine lv_isub hx hb dX6_byteAt_19 ?_
  obtain ⟨⟨r_4, M_5⟩, hq_6, h⟩ := ob h
  try dsimp only at h
  refine r_thenI hS (r_runS C hS hl.1 cs_X6_28 (c_X3_signIn l G F r_1 (55 - (5 * (x2 - x2 / 12 * 12))) M_2  _ hq_6) ⟨by decide, by decide⟩ rfl rfl (Nat.le_of_ble_eq_true rfl) ⟨Nat.zero_le _, Nat.zero_le _⟩ dX6_byteAt_20) (fun H locs hS => ?_)
  obtain ⟨⟨r_7, M_8⟩, hq_9, h⟩ := ob h
  try dsimp only at h
  refine r_thenI hS (r_runS C hS hl.1 cs_X6_32 (c_X3_byteOf l G F r_4 M_5  _ hq_9) ⟨by decide, by decide⟩ rfl rfl (Nat.le_of_ble_eq_true rfl) ⟨Nat.zero_le _, Nat.zero_le _⟩ dX6_byteAt_23) (fun H locs hS => ?_)
  exact r_iret C hS hr hlk h dX6_byteAt_26
def E_Spe_count_16 (G : Gl) (p : Program) (l : Launch) (e : Env) (s : State) (m : MethodId) (args : Array Value) (below : List Frame) (meth : Method) (c : Code) (Q : State → Prop) (a0 : Nat) (x1 : Int32) (x3 : Int32) : Nat → (Int32 × Int32 × zM) → Prop := fun k (x4, x5, M) => match k with
  | 0 => ∀ (H : Heap) (locs : List Loc) (ls : Array Slot), St G M s H locs → lv_has ls 9 [(0, .ref (G.1 + a0)), (1, .int x1), (3, .int x3), (4, .int x4), (5, .int x5)] → W p l e (rmM 1 23) s m args below meth c H locs 0 0 Q (F0 m 16 ls [])
  | 1 => ∀ (H : Heap) (locs : List Loc) (ls : Array Slot), St G M s H locs → lv_has ls 9 [(4, .int x4)] → W p l e (rmM 1 23) s m args below meth c H locs 0 0 Q (F0 m 66 ls [])
  | _ => True
def E_Spe_count_35 (G : Gl) (p : Program) (l : Launch) (e : Env) (s : State) (m : MethodId) (args : Array Value) (below : List Frame) (meth : Method) (c : Code) (Q : State → Prop) (a0 : Nat) (x1 : Int32) (x3 : Int32) (x5 : Int32) (x6 : Int64) : Nat → (Int32 × Int32 × zM) → Prop := fun k (x4, x8, M) => match k with
  | 0 => ∀ (H : Heap) (locs : List Loc) (ls : Array Slot), St G M s H locs → lv_has ls 9 [(0, .ref (G.1 + a0)), (1, .int x1), (3, .int x3), (4, .int x4), (5, .int x5), (6, .long x6), (8, .int x8)] → W p l e (rmM 1 23) s m args below meth c H locs 0 0 Q (F0 m 35 ls [])
  | 1 => ∀ (H : Heap) (locs : List Loc) (ls : Array Slot), St G M s H locs → lv_has ls 9 [(0, .ref (G.1 + a0)), (1, .int x1), (3, .int x3), (4, .int x4), (5, .int x5)] → W p l e (rmM 1 23) s m args below meth c H locs 0 0 Q (F0 m 60 ls [])
  | _ => True
set_option maxHeartbeats 4000000 in
set_option maxRecDepth 100000 in
theorem w_Spe_count_B35 {G : Gl} {p : Program} {l : Launch} {e : Env} {s : State} {m : MethodId} {args : Array Value} {below : List Frame} {meth : Method} {c : Code} {Q : State → Prop} (C : Cx G cX6_count 9 RX6 p s m args c) (a0 : Nat) (x1 : Int32) (x3 : Int32) (x5 : Int32) (x6 : Int64) (k0 : zK a0 = 6) (F : Nat) : ∀ (σ : (Int32 × Int32 × zM)) (q : Nat × (Int32 × Int32 × zM)), Spe_count_B35 F a0 x1 x3 x5 x6 σ = some q → (E_Spe_count_35 G p l e s m args below meth c Q a0 x1 x3 x5 x6) q.1 q.2 → (E_Spe_count_35 G p l e s m args below meth c Q a0 x1 x3 x5 x6) 0 σ := by
  intro (x4, x8, M) q h hE H locs ls hS hl
  obtain ⟨hx, hb, -⟩ := id C
  unfold Spe_count_B35 at h
  try dsimp only at h
  refine lv_iload hx hb dX6_count_35 (lv_at hl 6 rfl) ?_
  refine lv_if_lt (tgt := 60) hx hb dX6_count_37 (by decide) (fun c_11 => ?_) (fun c_11 => ?_)
  · replace h := ifp c_11 h
    obtain rfl := Option.some.inj h
    exact hE _ _ _ hS (lv_sub hl [0, 1, 2, 3, 4] rfl)
  · replace h := ifn c_11 h
    refine lv_lload hx hb dX6_count_40 (lv_at hl 5 rfl) ?_
    refine lv_iload hx hb dX6_count_42 (lv_at hl 6 rfl) ?_
    obtain ⟨⟨r_12, M_13⟩, hq_14, h⟩ := ob h
    try dsimp only at h
    refine r_thenI hS (r_runS C hS hl.1 cs_X6_28 (c_X3_signIn l G F x6 x8 M  _ hq_14) ⟨by decide, by decide⟩ rfl rfl (Nat.le_of_ble_eq_true rfl) ⟨Nat.zero_le _, Nat.zero_le _⟩ dX6_count_44) (fun H locs hS => ?_)
    refine lv_iload_n hx hb dX6_count_47 rfl (lv_at hl 2 rfl) ?_
    refine lv_icmp_ne (tgt := 54) hx hb dX6_count_48 (by decide) (fun c_15 => ?_) (fun c_15 => ?_)
    · replace h := ifn c_15 h
      obtain ⟨x8_16, e_17, h⟩ := olt h
      refine lv_iinc (v := x8_16) (lv' := [(8, .int x8_16), (0, .ref (G.1 + a0)), (1, .int x1), (3, .int x3), (4, .int x4), (5, .int x5), (6, .long x6)]) hx hb dX6_count_54 hl (k := 6) rfl (by rw [e_17]; rfl) (by decide) rfl (fun ls hl => ?_)
      refine lv_goto (tgt := 35) hx hb dX6_count_57 (by decide) ?_
      obtain rfl := Option.some.inj h
      exact hE _ _ _ hS (lv_sub hl [1, 2, 3, 4, 5, 6, 0] rfl)
    · replace h := ifp c_15 h
      obtain ⟨x4_18, e_19, h⟩ := olt h
      refine lv_iinc (v := x4_18) (lv' := [(4, .int x4_18), (0, .ref (G.1 + a0)), (1, .int x1), (3, .int x3), (5, .int x5), (6, .long x6), (8, .int x8)]) hx hb dX6_count_51 hl (k := 3) rfl (by rw [e_19]; rfl) (by decide) rfl (fun ls hl => ?_)
      obtain ⟨x8_20, e_21, h⟩ := olt h
      refine lv_iinc (v := x8_20) (lv' := [(8, .int x8_20), (4, .int x4_18), (0, .ref (G.1 + a0)), (1, .int x1), (3, .int x3), (5, .int x5), (6, .long x6)]) hx hb dX6_count_54 hl (k := 6) rfl (by rw [e_21]; rfl) (by decide) rfl (fun ls hl => ?_)
      refine lv_goto (tgt := 35) hx hb dX6_count_57 (by decide) ?_
      obtain rfl := Option.some.inj h
      exact hE _ _ _ hS (lv_sub hl [2, 3, 4, 1, 5, 6, 0] rfl)
set_option maxHeartbeats 4000000 in
set_option maxRecDepth 100000 in
theorem w_Spe_count_B16 {G : Gl} {p : Program} {l : Launch} {e : Env} {s : State} {m : MethodId} {args : Array Value} {below : List Frame} {meth : Method} {c : Code} {Q : State → Prop} (C : Cx G cX6_count 9 RX6 p s m args c) (a0 : Nat) (x1 : Int32) (x3 : Int32) (k0 : zK a0 = 6) (F : Nat) : ∀ (σ : (Int32 × Int32 × zM)) (q : Nat × (Int32 × Int32 × zM)), Spe_count_B16 F a0 x1 x3 σ = some q → (E_Spe_count_16 G p l e s m args below meth c Q a0 x1 x3) q.1 q.2 → (E_Spe_count_16 G p l e s m args below meth c Q a0 x1 x3) 0 σ := by
  intro (x4, x5, M) q h hE H locs ls hS hl
  obtain ⟨hx, hb, -⟩ := id C
  unfold Spe_count_B16 at h
  try dsimp only at h
  refine lv_iload hx hb dX6_count_16 (lv_at hl 4 rfl) ?_
  refine lv_iconst (v := 5) hx hb dX6_count_18 (by decide) ?_
  refine lv_icmp_ge (tgt := 66) hx hb dX6_count_19 (by decide) (fun c_7 => ?_) (fun c_7 => ?_)
  · replace h := ifp c_7 h
    obtain rfl := Option.some.inj h
    exact hE _ _ _ hS (lv_sub hl [3] rfl)
  · replace h := ifn c_7 h
    refine lv_aload_n hx hb dX6_count_22 rfl (lv_at hl 0 rfl) ?_
    refine lv_iload_n hx hb dX6_count_23 rfl (lv_at hl 1 rfl) ?_
    refine lv_iload hx hb dX6_count_24 (lv_at hl 4 rfl) ?_
    obtain ⟨⟨r_8, M_9⟩, hq_10, h⟩ := ob h
    try dsimp only at h
    refine r_thenL hS (r_runV C hS hl.1 cv_X6_25 k0 (c_X6_signs l G F a0 x1 x5 M k0 _ hq_10) ⟨by decide, by decide⟩ rfl rfl (Nat.le_of_ble_eq_true rfl) ⟨Nat.zero_le _, Nat.zero_le _⟩ dX6_count_26) (fun H locs hS => ?_)
    refine lv_lstore (lv' := [(6, .long r_8), (0, .ref (G.1 + a0)), (1, .int x1), (3, .int x3), (4, .int x4), (5, .int x5)]) hx hb dX6_count_29 hl (by decide) rfl (fun ls hl => ?_)
    refine lv_bipush (v := 55) hx hb dX6_count_31 (by decide) ?_
    refine lv_istore (lv' := [(8, .int 55), (6, .long r_8), (0, .ref (G.1 + a0)), (1, .int x1), (3, .int x3), (4, .int x4), (5, .int x5)]) hx hb dX6_count_33 hl (by decide) rfl (fun ls hl => ?_)
    obtain ⟨⟨k_25, x4_22, x8_23, M_24⟩, hq_26, h⟩ := ob h
    try dsimp only at h
    refine loopW (E := (E_Spe_count_35 G p l e s m _ below meth c _ a0 x1 x3 x5 r_8)) (w_Spe_count_B35 C a0 x1 x3 x5 r_8 k0 F) F _ _ hq_26 ?_ _ _ _ hS (lv_sub hl [2, 3, 4, 5, 6, 1, 0] rfl)
    by_cases ek_29 : k_25 = 1
    · replace h := ifp ek_29 h
      subst ek_29
      intro H locs ls hS hl
      obtain ⟨x5_27, e_28, h⟩ := olt h
      refine lv_iinc (v := x5_27) (lv' := [(5, .int x5_27), (0, .ref (G.1 + a0)), (1, .int x1), (3, .int x3), (4, .int x4_22)]) hx hb dX6_count_60 hl (k := 4) rfl (by rw [e_28]; rfl) (by decide) rfl (fun ls hl => ?_)
      refine lv_goto (tgt := 16) hx hb dX6_count_63 (by decide) ?_
      obtain rfl := Option.some.inj h
      exact hE _ _ _ hS (lv_sub hl [1, 2, 3, 4, 0] rfl)
    · replace h := ifn ek_29 h
      cases h
set_option maxHeartbeats 4000000 in
set_option maxRecDepth 100000 in
theorem c_X6_count (l : Launch) (G : Gl) (F : Nat) (a0 : Nat) (x1 : Int32) (x2 : Int32) (M : zM) (k0 : zK a0 = 6) (q : Int32 × zM) (h : Spe_count F a0 x1 x2 M = some q) : Met l yX6_count (wsM yX6_count cX6_count 9 (some .int)) (rmM 1 23) (Pre G M [.ref (G.1 + a0), .int x1, .int x2]) (PoI G q) 0 0 (gA G) := by
  refine r_met (own := RX6) rfl (by decide) (Nat.le_of_ble_eq_true rfl) ?_
  intro p e s m below meth c ls C hr hlk hS hl
  have hl : lv_has ls 9 [(0, .ref (G.1 + a0)), (1, .int x1), (2, .int x2)] := hl
  obtain ⟨hx, hb, -⟩ := id C
  unfold Spe_count at h
  refine lv_iload_n hx hb dX6_count_0 rfl (lv_at hl 2 rfl) ?_
  obtain ⟨⟨r_1, M_2⟩, hq_3, h⟩ := ob h
  try dsimp only at h
  refine r_thenL hS (r_runS C hS hl.1 cs_X6_36 (c_X3_signOf l G F x2 M  _ hq_3) ⟨by decide, by decide⟩ rfl rfl (Nat.le_of_ble_eq_true rfl) ⟨Nat.zero_le _, Nat.zero_le _⟩ dX6_count_1) (fun H locs hS => ?_)
  refine lv_bipush (v := 55) hx hb dX6_count_4 (by decide) ?_
  obtain ⟨⟨r_4, M_5⟩, hq_6, h⟩ := ob h
  try dsimp only at h
  refine r_thenI hS (r_runS C hS hl.1 cs_X6_28 (c_X3_signIn l G F r_1 55 M_2  _ hq_6) ⟨by decide, by decide⟩ rfl rfl (Nat.le_of_ble_eq_true rfl) ⟨Nat.zero_le _, Nat.zero_le _⟩ dX6_count_6) (fun H locs hS => ?_)
  refine lv_istore_n (lv' := [(3, .int r_4), (0, .ref (G.1 + a0)), (1, .int x1), (2, .int x2)]) hx hb dX6_count_9 rfl hl (by decide) rfl (fun ls hl => ?_)
  refine lv_iconst (v := 0) hx hb dX6_count_10 (by decide) ?_
  refine lv_istore (lv' := [(4, .int 0), (3, .int r_4), (0, .ref (G.1 + a0)), (1, .int x1), (2, .int x2)]) hx hb dX6_count_11 hl (by decide) rfl (fun ls hl => ?_)
  refine lv_iconst (v := 0) hx hb dX6_count_13 (by decide) ?_
  refine lv_istore (lv' := [(5, .int 0), (4, .int 0), (3, .int r_4), (0, .ref (G.1 + a0)), (1, .int x1), (2, .int x2)]) hx hb dX6_count_14 hl (by decide) rfl (fun ls hl => ?_)
  obtain ⟨⟨k_33, x4_30, x5_31, M_32⟩, hq_34, h⟩ := ob h
  try dsimp only at h
  refine loopW (E := (E_Spe_count_16 G p l e s m _ below meth c _ a0 x1 r_4)) (w_Spe_count_B16 C a0 x1 r_4 k0 F) F _ _ hq_34 ?_ _ _ _ hS (lv_sub hl [3, 4, 2, 1, 0] rfl)
  by_cases ek_35 : k_33 = 1
  · replace h := ifp ek_35 h
    subst ek_35
    intro H locs ls hS hl
    refine lv_iload hx hb dX6_count_66 (lv_at hl 0 rfl) ?_
    exact r_iret C hS hr hlk h dX6_count_68
  · replace h := ifn ek_35 h
    cases h
def E_Squ_lay_93 (G : Gl) (p : Program) (l : Launch) (e : Env) (s : State) (m : MethodId) (args : Array Value) (below : List Frame) (meth : Method) (c : Code) (Q : State → Prop)  : Nat → (Int32 × zM) → Prop := fun k (x4, M) => match k with
  | 0 => ∀ (H : Heap) (locs : List Loc) (ls : Array Slot), St G M s H locs → lv_has ls 5 [(0, .ref (G.1 + 61)), (4, .int x4)] → W p l e (rmM 0 0) s m args below meth c H locs 0 0 Q (F0 m 93 ls [])
  | 1 => ∀ (H : Heap) (locs : List Loc) (ls : Array Slot), St G M s H locs → lv_has ls 5 [] → W p l e (rmM 0 0) s m args below meth c H locs 0 0 Q (F0 m 123 ls [])
  | 2 => ∀ (H : Heap) (locs : List Loc) (ls : Array Slot), St G M s H locs → lv_has ls 5 [] → W p l e (rmM 0 0) s m args below meth c H locs 0 0 Q (F0 m 131 ls [])
  | _ => True
set_option maxHeartbeats 4000000 in
set_option maxRecDepth 100000 in
theorem w_Squ_lay_B93 {G : Gl} {p : Program} {l : Launch} {e : Env} {s : State} {m : MethodId} {args : Array Value} {below : List Frame} {meth : Method} {c : Code} {Q : State → Prop} (C : Cx G cX7_lay 5 RX7 p s m args c)  (F : Nat) : ∀ (σ : (Int32 × zM)) (q : Nat × (Int32 × zM)), Squ_lay_B93 F  σ = some q → (E_Squ_lay_93 G p l e s m args below meth c Q ) q.1 q.2 → (E_Squ_lay_93 G p l e s m args below meth c Q ) 0 σ := by
  intro (x4, M) q h hE H locs ls hS hl
  obtain ⟨hx, hb, -⟩ := id C
  unfold Squ_lay_B93 at h
  try dsimp only at h
  refine lv_iload hx hb dX7_lay_93 (lv_at hl 1 rfl) ?_
  refine lv_bipush (v := 9) hx hb dX7_lay_95 (by decide) ?_
  refine lv_icmp_ge (tgt := 131) hx hb dX7_lay_97 (by decide) (fun c_28 => ?_) (fun c_28 => ?_)
  · replace h := ifp c_28 h
    obtain rfl := Option.some.inj h
    exact hE _ _ _ hS (lv_sub hl [] rfl)
  · replace h := ifn c_28 h
    refine lv_aload_n hx hb dX7_lay_100 rfl (lv_at hl 0 rfl) ?_
    refine r_gR C hS fl_X7_11 rfl rfl rfl dX7_lay_101 ?_
    refine lv_iload hx hb dX7_lay_104 (lv_at hl 1 rfl) ?_
    obtain ⟨b_29, h⟩ := ift h
    refine r_iald C hS rfl rfl b_29 dX7_lay_106 ?_
    refine lv_if_lt (tgt := 123) hx hb dX7_lay_107 (by decide) (fun c_30 => ?_) (fun c_30 => ?_)
    · replace h := ifp c_30 h
      obtain rfl := Option.some.inj h
      exact hE _ _ _ hS (lv_sub hl [] rfl)
    · replace h := ifn c_30 h
      refine lv_aload_n hx hb dX7_lay_110 rfl (lv_at hl 0 rfl) ?_
      refine r_gR C hS fl_X7_11 rfl rfl rfl dX7_lay_111 ?_
      refine lv_iload hx hb dX7_lay_114 (lv_at hl 1 rfl) ?_
      refine r_iald C hS rfl rfl b_29 dX7_lay_116 ?_
      refine lv_sipush (v := 1000) hx hb dX7_lay_117 (by decide) ?_
      refine lv_icmp_lt (tgt := 125) hx hb dX7_lay_120 (by decide) (fun c_31 => ?_) (fun c_31 => ?_)
      · replace h := ifp c_31 h
        obtain ⟨x4_32, e_33, h⟩ := olt h
        refine lv_iinc (v := x4_32) (lv' := [(4, .int x4_32), (0, .ref (G.1 + 61))]) hx hb dX7_lay_125 hl (k := 1) rfl (by rw [e_33]; rfl) (by decide) rfl (fun ls hl => ?_)
        refine lv_goto (tgt := 93) hx hb dX7_lay_128 (by decide) ?_
        obtain rfl := Option.some.inj h
        exact hE _ _ _ hS (lv_sub hl [1, 0] rfl)
      · replace h := ifn c_31 h
        obtain rfl := Option.some.inj h
        exact hE _ _ _ hS (lv_sub hl [] rfl)
set_option maxHeartbeats 4000000 in
set_option maxRecDepth 100000 in
theorem c_X7_lay (l : Launch) (G : Gl) (F : Nat) (x1 : Int32) (x2 : Int32) (x3 : Int32) (M : zM)  (q : Int32 × zM) (h : Squ_lay F x1 x2 x3 M = some q) : Met l yX7_lay (wsM yX7_lay cX7_lay 5 (some .boolean)) (rmM 0 0) (Pre G M [.ref (G.1 + 61), .int x1, .int x2, .int x3]) (PoI G q) 0 0 (gA G) := by
  refine r_met (own := RX7) rfl (by decide) (Nat.le_of_ble_eq_true rfl) ?_
  intro p e s m below meth c ls C hr hlk hS hl
  have hl : lv_has ls 5 [(0, .ref (G.1 + 61)), (1, .int x1), (2, .int x2), (3, .int x3)] := hl
  obtain ⟨hx, hb, -⟩ := id C
  unfold Squ_lay at h
  refine lv_aload_n hx hb dX7_lay_0 rfl (lv_at hl 0 rfl) ?_
  refine r_gR C hS fl_X7_11 rfl rfl rfl dX7_lay_1 ?_
  refine lv_iconst (v := 0) hx hb dX7_lay_4 (by decide) ?_
  refine lv_iload_n hx hb dX7_lay_5 rfl (lv_at hl 1 rfl) ?_
  refine lv_iload_n hx hb dX7_lay_6 rfl (lv_at hl 2 rfl) ?_
  refine lv_iadd hx hb dX7_lay_7 ?_
  obtain ⟨b_1, h⟩ := ift h
  obtain ⟨M_2, e_3, h⟩ := olt h
  refine r_iast C hS rfl rfl b_1 e_3 dX7_lay_8 (fun H locs hS => ?_)
  refine lv_aload_n hx hb dX7_lay_9 rfl (lv_at hl 0 rfl) ?_
  refine r_gR C hS fl_X7_11 rfl rfl rfl dX7_lay_10 ?_
  refine lv_iconst (v := 1) hx hb dX7_lay_13 (by decide) ?_
  refine lv_iload_n hx hb dX7_lay_14 rfl (lv_at hl 1 rfl) ?_
  refine lv_iload_n hx hb dX7_lay_15 rfl (lv_at hl 2 rfl) ?_
  refine lv_isub hx hb dX7_lay_16 ?_
  refine lv_iload_n hx hb dX7_lay_17 rfl (lv_at hl 3 rfl) ?_
  refine lv_isub hx hb dX7_lay_18 ?_
  obtain ⟨b_4, h⟩ := ift h
  obtain ⟨M_5, e_6, h⟩ := olt h
  refine r_iast C hS rfl rfl b_4 e_6 dX7_lay_19 (fun H locs hS => ?_)
  refine lv_aload_n hx hb dX7_lay_20 rfl (lv_at hl 0 rfl) ?_
  refine r_gR C hS fl_X7_11 rfl rfl rfl dX7_lay_21 ?_
  refine lv_iconst (v := 2) hx hb dX7_lay_24 (by decide) ?_
  refine lv_iload_n hx hb dX7_lay_25 rfl (lv_at hl 1 rfl) ?_
  refine lv_iload_n hx hb dX7_lay_26 rfl (lv_at hl 3 rfl) ?_
  refine lv_iadd hx hb dX7_lay_27 ?_
  obtain ⟨b_7, h⟩ := ift h
  obtain ⟨M_8, e_9, h⟩ := olt h
  refine r_iast C hS rfl rfl b_7 e_9 dX7_lay_28 (fun H locs hS => ?_)
  refine lv_aload_n hx hb dX7_lay_29 rfl (lv_at hl 0 rfl) ?_
  refine r_gR C hS fl_X7_11 rfl rfl rfl dX7_lay_30 ?_
  refine lv_iconst (v := 3) hx hb dX7_lay_33 (by decide) ?_
  refine lv_iload_n hx hb dX7_lay_34 rfl (lv_at hl 1 rfl) ?_
  refine lv_iload_n hx hb dX7_lay_35 rfl (lv_at hl 2 rfl) ?_
  refine lv_isub hx hb dX7_lay_36 ?_
  refine lv_iload_n hx hb dX7_lay_37 rfl (lv_at hl 3 rfl) ?_
  refine lv_iadd hx hb dX7_lay_38 ?_
  obtain ⟨b_10, h⟩ := ift h
  obtain ⟨M_11, e_12, h⟩ := olt h
  refine r_iast C hS rfl rfl b_10 e_12 dX7_lay_39 (fun H locs hS => ?_)
  refine lv_aload_n hx hb dX7_lay_40 rfl (lv_at hl 0 rfl) ?_
  refine r_gR C hS fl_X7_11 rfl rfl rfl dX7_lay_41 ?_
  refine lv_iconst (v := 4) hx hb dX7_lay_44 (by decide) ?_
  refine lv_iload_n hx hb dX7_lay_45 rfl (lv_at hl 1 rfl) ?_
  obtain ⟨b_13, h⟩ := ift h
  obtain ⟨M_14, e_15, h⟩ := olt h
  refine r_iast C hS rfl rfl b_13 e_15 dX7_lay_46 (fun H locs hS => ?_)
  refine lv_aload_n hx hb dX7_lay_47 rfl (lv_at hl 0 rfl) ?_
  refine r_gR C hS fl_X7_11 rfl rfl rfl dX7_lay_48 ?_
  refine lv_iconst (v := 5) hx hb dX7_lay_51 (by decide) ?_
  refine lv_iload_n hx hb dX7_lay_52 rfl (lv_at hl 1 rfl) ?_
  refine lv_iload_n hx hb dX7_lay_53 rfl (lv_at hl 2 rfl) ?_
  refine lv_iadd hx hb dX7_lay_54 ?_
  refine lv_iload_n hx hb dX7_lay_55 rfl (lv_at hl 3 rfl) ?_
  refine lv_isub hx hb dX7_lay_56 ?_
  obtain ⟨b_16, h⟩ := ift h
  obtain ⟨M_17, e_18, h⟩ := olt h
  refine r_iast C hS rfl rfl b_16 e_18 dX7_lay_57 (fun H locs hS => ?_)
  refine lv_aload_n hx hb dX7_lay_58 rfl (lv_at hl 0 rfl) ?_
  refine r_gR C hS fl_X7_11 rfl rfl rfl dX7_lay_59 ?_
  refine lv_bipush (v := 6) hx hb dX7_lay_62 (by decide) ?_
  refine lv_iload_n hx hb dX7_lay_64 rfl (lv_at hl 1 rfl) ?_
  refine lv_iload_n hx hb dX7_lay_65 rfl (lv_at hl 3 rfl) ?_
  refine lv_isub hx hb dX7_lay_66 ?_
  obtain ⟨b_19, h⟩ := ift h
  obtain ⟨M_20, e_21, h⟩ := olt h
  refine r_iast C hS rfl rfl b_19 e_21 dX7_lay_67 (fun H locs hS => ?_)
  refine lv_aload_n hx hb dX7_lay_68 rfl (lv_at hl 0 rfl) ?_
  refine r_gR C hS fl_X7_11 rfl rfl rfl dX7_lay_69 ?_
  refine lv_bipush (v := 7) hx hb dX7_lay_72 (by decide) ?_
  refine lv_iload_n hx hb dX7_lay_74 rfl (lv_at hl 1 rfl) ?_
  refine lv_iload_n hx hb dX7_lay_75 rfl (lv_at hl 2 rfl) ?_
  refine lv_iadd hx hb dX7_lay_76 ?_
  refine lv_iload_n hx hb dX7_lay_77 rfl (lv_at hl 3 rfl) ?_
  refine lv_iadd hx hb dX7_lay_78 ?_
  obtain ⟨b_22, h⟩ := ift h
  obtain ⟨M_23, e_24, h⟩ := olt h
  refine r_iast C hS rfl rfl b_22 e_24 dX7_lay_79 (fun H locs hS => ?_)
  refine lv_aload_n hx hb dX7_lay_80 rfl (lv_at hl 0 rfl) ?_
  refine r_gR C hS fl_X7_11 rfl rfl rfl dX7_lay_81 ?_
  refine lv_bipush (v := 8) hx hb dX7_lay_84 (by decide) ?_
  refine lv_iload_n hx hb dX7_lay_86 rfl (lv_at hl 1 rfl) ?_
  refine lv_iload_n hx hb dX7_lay_87 rfl (lv_at hl 2 rfl) ?_
  refine lv_isub hx hb dX7_lay_88 ?_
  obtain ⟨b_25, h⟩ := ift h
  obtain ⟨M_26, e_27, h⟩ := olt h
  refine r_iast C hS rfl rfl b_25 e_27 dX7_lay_89 (fun H locs hS => ?_)
  refine lv_iconst (v := 0) hx hb dX7_lay_90 (by decide) ?_
  refine lv_istore (lv' := [(4, .int 0), (0, .ref (G.1 + 61)), (1, .int x1), (2, .int x2), (3, .int x3)]) hx hb dX7_lay_91 hl (by decide) rfl (fun ls hl => ?_)
  obtain ⟨⟨k_36, x4_34, M_35⟩, hq_37, h⟩ := ob h
  try dsimp only at h
  refine loopW (E := (E_Squ_lay_93 G p l e s m _ below meth c _ )) (w_Squ_lay_B93 C  F) F _ _ hq_37 ?_ _ _ _ hS (lv_sub hl [1, 0] rfl)
  by_cases ek_39 : k_36 = 1
  · replace h := ifp ek_39 h
    subst ek_39
    intro H locs ls hS hl
    refine lv_iconst (v := 0) hx hb dX7_lay_123 (by decide) ?_
    exact r_zret C hS hr hlk h dX7_lay_124
  · replace h := ifn ek_39 h
    by_cases ek_38 : k_36 = 2
    · replace h := ifp ek_38 h
      subst ek_38
      intro H locs ls hS hl
      refine lv_iconst (v := 1) hx hb dX7_lay_131 (by decide) ?_
      exact r_zret C hS hr hlk h dX7_lay_132
    · replace h := ifn ek_38 h
      cases h
def E_Squ_isUnlike_2 (G : Gl) (p : Program) (l : Launch) (e : Env) (s : State) (m : MethodId) (args : Array Value) (below : List Frame) (meth : Method) (c : Code) (Q : State → Prop)  : Nat → (Int32 × zM) → Prop := fun k (x1, M) => match k with
  | 0 => ∀ (H : Heap) (locs : List Loc) (ls : Array Slot), St G M s H locs → lv_has ls 3 [(0, .ref (G.1 + 61)), (1, .int x1)] → W p l e (rmM 0 0) s m args below meth c H locs 0 0 Q (F0 m 2 ls [])
  | 1 => ∀ (H : Heap) (locs : List Loc) (ls : Array Slot), St G M s H locs → lv_has ls 3 [] → W p l e (rmM 0 0) s m args below meth c H locs 0 0 Q (F0 m 30 ls [])
  | 2 => ∀ (H : Heap) (locs : List Loc) (ls : Array Slot), St G M s H locs → lv_has ls 3 [] → W p l e (rmM 0 0) s m args below meth c H locs 0 0 Q (F0 m 44 ls [])
  | _ => True
def E_Squ_isUnlike_10 (G : Gl) (p : Program) (l : Launch) (e : Env) (s : State) (m : MethodId) (args : Array Value) (below : List Frame) (meth : Method) (c : Code) (Q : State → Prop) (x1 : Int32) : Nat → (Int32 × zM) → Prop := fun k (x2, M) => match k with
  | 0 => ∀ (H : Heap) (locs : List Loc) (ls : Array Slot), St G M s H locs → lv_has ls 3 [(0, .ref (G.1 + 61)), (1, .int x1), (2, .int x2)] → W p l e (rmM 0 0) s m args below meth c H locs 0 0 Q (F0 m 10 ls [])
  | 1 => ∀ (H : Heap) (locs : List Loc) (ls : Array Slot), St G M s H locs → lv_has ls 3 [] → W p l e (rmM 0 0) s m args below meth c H locs 0 0 Q (F0 m 30 ls [])
  | 2 => ∀ (H : Heap) (locs : List Loc) (ls : Array Slot), St G M s H locs → lv_has ls 3 [(0, .ref (G.1 + 61)), (1, .int x1)] → W p l e (rmM 0 0) s m args below meth c H locs 0 0 Q (F0 m 38 ls [])
  | _ => True
set_option maxHeartbeats 4000000 in
set_option maxRecDepth 100000 in
theorem w_Squ_isUnlike_B10 {G : Gl} {p : Program} {l : Launch} {e : Env} {s : State} {m : MethodId} {args : Array Value} {below : List Frame} {meth : Method} {c : Code} {Q : State → Prop} (C : Cx G cX7_isUnlike 3 RX7 p s m args c) (x1 : Int32) (F : Nat) : ∀ (σ : (Int32 × zM)) (q : Nat × (Int32 × zM)), Squ_isUnlike_B10 F x1 σ = some q → (E_Squ_isUnlike_10 G p l e s m args below meth c Q x1) q.1 q.2 → (E_Squ_isUnlike_10 G p l e s m args below meth c Q x1) 0 σ := by
  intro (x2, M) q h hE H locs ls hS hl
  obtain ⟨hx, hb, -⟩ := id C
  unfold Squ_isUnlike_B10 at h
  try dsimp only at h
  refine lv_iload_n hx hb dX7_isUnlike_10 rfl (lv_at hl 2 rfl) ?_
  refine lv_iload_n hx hb dX7_isUnlike_11 rfl (lv_at hl 1 rfl) ?_
  refine lv_icmp_ge (tgt := 38) hx hb dX7_isUnlike_12 (by decide) (fun c_2 => ?_) (fun c_2 => ?_)
  · replace h := ifp c_2 h
    obtain rfl := Option.some.inj h
    exact hE _ _ _ hS (lv_sub hl [0, 1] rfl)
  · replace h := ifn c_2 h
    refine lv_aload_n hx hb dX7_isUnlike_15 rfl (lv_at hl 0 rfl) ?_
    refine r_gR C hS fl_X7_11 rfl rfl rfl dX7_isUnlike_16 ?_
    refine lv_iload_n hx hb dX7_isUnlike_19 rfl (lv_at hl 1 rfl) ?_
    obtain ⟨b_3, h⟩ := ift h
    refine r_iald C hS rfl rfl b_3 dX7_isUnlike_20 ?_
    refine lv_aload_n hx hb dX7_isUnlike_21 rfl (lv_at hl 0 rfl) ?_
    refine r_gR C hS fl_X7_11 rfl rfl rfl dX7_isUnlike_22 ?_
    refine lv_iload_n hx hb dX7_isUnlike_25 rfl (lv_at hl 2 rfl) ?_
    obtain ⟨b_4, h⟩ := ift h
    refine r_iald C hS rfl rfl b_4 dX7_isUnlike_26 ?_
    refine lv_icmp_ne (tgt := 32) hx hb dX7_isUnlike_27 (by decide) (fun c_5 => ?_) (fun c_5 => ?_)
    · replace h := ifn c_5 h
      obtain ⟨x2_6, e_7, h⟩ := olt h
      refine lv_iinc (v := x2_6) (lv' := [(2, .int x2_6), (0, .ref (G.1 + 61)), (1, .int x1)]) hx hb dX7_isUnlike_32 hl (k := 2) rfl (by rw [e_7]; rfl) (by decide) rfl (fun ls hl => ?_)
      refine lv_goto (tgt := 10) hx hb dX7_isUnlike_35 (by decide) ?_
      obtain rfl := Option.some.inj h
      exact hE _ _ _ hS (lv_sub hl [1, 2, 0] rfl)
    · replace h := ifp c_5 h
      obtain rfl := Option.some.inj h
      exact hE _ _ _ hS (lv_sub hl [] rfl)
set_option maxHeartbeats 4000000 in
set_option maxRecDepth 100000 in
theorem w_Squ_isUnlike_B2 {G : Gl} {p : Program} {l : Launch} {e : Env} {s : State} {m : MethodId} {args : Array Value} {below : List Frame} {meth : Method} {c : Code} {Q : State → Prop} (C : Cx G cX7_isUnlike 3 RX7 p s m args c)  (F : Nat) : ∀ (σ : (Int32 × zM)) (q : Nat × (Int32 × zM)), Squ_isUnlike_B2 F  σ = some q → (E_Squ_isUnlike_2 G p l e s m args below meth c Q ) q.1 q.2 → (E_Squ_isUnlike_2 G p l e s m args below meth c Q ) 0 σ := by
  intro (x1, M) q h hE H locs ls hS hl
  obtain ⟨hx, hb, -⟩ := id C
  unfold Squ_isUnlike_B2 at h
  try dsimp only at h
  refine lv_iload_n hx hb dX7_isUnlike_2 rfl (lv_at hl 1 rfl) ?_
  refine lv_bipush (v := 9) hx hb dX7_isUnlike_3 (by decide) ?_
  refine lv_icmp_ge (tgt := 44) hx hb dX7_isUnlike_5 (by decide) (fun c_1 => ?_) (fun c_1 => ?_)
  · replace h := ifp c_1 h
    obtain rfl := Option.some.inj h
    exact hE _ _ _ hS (lv_sub hl [] rfl)
  · replace h := ifn c_1 h
    refine lv_iconst (v := 0) hx hb dX7_isUnlike_8 (by decide) ?_
    refine lv_istore_n (lv' := [(2, .int 0), (0, .ref (G.1 + 61)), (1, .int x1)]) hx hb dX7_isUnlike_9 rfl hl (by decide) rfl (fun ls hl => ?_)
    obtain ⟨⟨k_10, x2_8, M_9⟩, hq_11, h⟩ := ob h
    try dsimp only at h
    refine loopW (E := (E_Squ_isUnlike_10 G p l e s m _ below meth c _ x1)) (w_Squ_isUnlike_B10 C x1 F) F _ _ hq_11 ?_ _ _ _ hS (lv_sub hl [1, 2, 0] rfl)
    by_cases ek_15 : k_10 = 1
    · replace h := ifp ek_15 h
      subst ek_15
      intro H locs ls hS hl
      obtain rfl := Option.some.inj h
      exact hE _ _ _ hS (lv_sub hl [] rfl)
    · replace h := ifn ek_15 h
      by_cases ek_14 : k_10 = 2
      · replace h := ifp ek_14 h
        subst ek_14
        intro H locs ls hS hl
        obtain ⟨x1_12, e_13, h⟩ := olt h
        refine lv_iinc (v := x1_12) (lv' := [(1, .int x1_12), (0, .ref (G.1 + 61))]) hx hb dX7_isUnlike_38 hl (k := 1) rfl (by rw [e_13]; rfl) (by decide) rfl (fun ls hl => ?_)
        refine lv_goto (tgt := 2) hx hb dX7_isUnlike_41 (by decide) ?_
        obtain rfl := Option.some.inj h
        exact hE _ _ _ hS (lv_sub hl [1, 0] rfl)
      · replace h := ifn ek_14 h
        cases h
set_option maxHeartbeats 4000000 in
set_option maxRecDepth 100000 in
theorem c_X7_isUnlike (l : Launch) (G : Gl) (F : Nat)  (M : zM)  (q : Int32 × zM) (h : Squ_isUnlike F  M = some q) : Met l yX7_isUnlike (wsM yX7_isUnlike cX7_isUnlike 3 (some .boolean)) (rmM 0 0) (Pre G M [.ref (G.1 + 61)]) (PoI G q) 0 0 (gA G) := by
  refine r_met (own := RX7) rfl (by decide) (Nat.le_of_ble_eq_true rfl) ?_
  intro p e s m below meth c ls C hr hlk hS hl
  have hl : lv_has ls 3 [(0, .ref (G.1 + 61))] := hl
  obtain ⟨hx, hb, -⟩ := id C
  unfold Squ_isUnlike at h
  refine lv_iconst (v := 0) hx hb dX7_isUnlike_0 (by decide) ?_
  refine lv_istore_n (lv' := [(1, .int 0), (0, .ref (G.1 + 61))]) hx hb dX7_isUnlike_1 rfl hl (by decide) rfl (fun ls hl => ?_)
  obtain ⟨⟨k_18, x1_16, M_17⟩, hq_19, h⟩ := ob h
  try dsimp only at h
  refine loopW (E := (E_Squ_isUnlike_2 G p l e s m _ below meth c _ )) (w_Squ_isUnlike_B2 C  F) F _ _ hq_19 ?_ _ _ _ hS (lv_sub hl [1, 0] rfl)
  by_cases ek_21 : k_18 = 1
  · replace h := ifp ek_21 h
    subst ek_21
    intro H locs ls hS hl
    refine lv_iconst (v := 0) hx hb dX7_isUnlike_30 (by decide) ?_
    exact r_zret C hS hr hlk h dX7_isUnlike_31
  · replace h := ifn ek_21 h
    by_cases ek_20 : k_18 = 2
    · replace h := ifp ek_20 h
      subst ek_20
      intro H locs ls hS hl
      refine lv_iconst (v := 1) hx hb dX7_isUnlike_44 (by decide) ?_
      exact r_zret C hS hr hlk h dX7_isUnlike_45
    · replace h := ifn ek_20 h
      cases h
def E_Squ_lineSum_5 (G : Gl) (p : Program) (l : Launch) (e : Env) (s : State) (m : MethodId) (args : Array Value) (below : List Frame) (meth : Method) (c : Code) (Q : State → Prop) (a1 : Nat) (x2 : Int32) : Nat → (Int32 × Int32 × zM) → Prop := fun k (x3, x4, M) => match k with
  | 0 => ∀ (H : Heap) (locs : List Loc) (ls : Array Slot), St G M s H locs → lv_has ls 5 [(0, .ref (G.1 + 61)), (1, .ref (G.1 + a1)), (2, .int x2), (3, .int x3), (4, .int x4)] → W p l e (rmM 2 42) s m args below meth c H locs 0 0 Q (F0 m 5 ls [])
  | 1 => ∀ (H : Heap) (locs : List Loc) (ls : Array Slot), St G M s H locs → lv_has ls 5 [(3, .int x3)] → W p l e (rmM 2 42) s m args below meth c H locs 0 0 Q (F0 m 46 ls [])
  | _ => True
set_option maxHeartbeats 4000000 in
set_option maxRecDepth 100000 in
theorem w_Squ_lineSum_B5 {G : Gl} {p : Program} {l : Launch} {e : Env} {s : State} {m : MethodId} {args : Array Value} {below : List Frame} {meth : Method} {c : Code} {Q : State → Prop} (C : Cx G cX7_lineSum 5 RX7 p s m args c) (a1 : Nat) (x2 : Int32) (k1 : zK a1 = 9) (F : Nat) : ∀ (σ : (Int32 × Int32 × zM)) (q : Nat × (Int32 × Int32 × zM)), Squ_lineSum_B5 F a1 x2 σ = some q → (E_Squ_lineSum_5 G p l e s m args below meth c Q a1 x2) q.1 q.2 → (E_Squ_lineSum_5 G p l e s m args below meth c Q a1 x2) 0 σ := by
  intro (x3, x4, M) q h hE H locs ls hS hl
  obtain ⟨hx, hb, -⟩ := id C
  unfold Squ_lineSum_B5 at h
  try dsimp only at h
  refine lv_iload hx hb dX7_lineSum_5 (lv_at hl 4 rfl) ?_
  refine lv_iload_n hx hb dX7_lineSum_7 rfl (lv_at hl 2 rfl) ?_
  refine lv_iconst (v := 3) hx hb dX7_lineSum_8 (by decide) ?_
  refine lv_iadd hx hb dX7_lineSum_9 ?_
  refine lv_icmp_ge (tgt := 46) hx hb dX7_lineSum_10 (by decide) (fun c_1 => ?_) (fun c_1 => ?_)
  · replace h := ifp c_1 h
    obtain rfl := Option.some.inj h
    exact hE _ _ _ hS (lv_sub hl [3] rfl)
  · replace h := ifn c_1 h
    refine lv_iload hx hb dX7_lineSum_13 (lv_at hl 4 rfl) ?_
    refine va_gets hx hb C.2.2.2.2.2.2.1 hS.2 C.2.2.2.1 (C.2.2.2.2.1 _ tw_874) (fun _ h => h) dX7_lineSum_15 ?_
    refine va_tlen hx hb C.2.2.2.2.2.2.2.1 hS.2 (v := 24) rfl dX7_lineSum_18 ?_
    refine lv_icmp_ge (tgt := 46) hx hb dX7_lineSum_19 (by decide) (fun c_2 => ?_) (fun c_2 => ?_)
    · replace h := ifp c_2 h
      obtain rfl := Option.some.inj h
      exact hE _ _ _ hS (lv_sub hl [3] rfl)
    · replace h := ifn c_2 h
      refine lv_iload_n hx hb dX7_lineSum_22 rfl (lv_at hl 3 rfl) ?_
      refine lv_aload_n hx hb dX7_lineSum_23 rfl (lv_at hl 1 rfl) ?_
      refine lv_aload_n hx hb dX7_lineSum_24 rfl (lv_at hl 0 rfl) ?_
      refine r_gR C hS fl_X7_11 rfl rfl rfl dX7_lineSum_25 ?_
      refine va_gets hx hb C.2.2.2.2.2.2.1 hS.2 C.2.2.2.1 (C.2.2.2.2.1 _ tw_874) (fun _ h => h) dX7_lineSum_28 ?_
      refine lv_iload hx hb dX7_lineSum_31 (lv_at hl 4 rfl) ?_
      obtain ⟨b_3, h⟩ := ift h
      refine va_ti hx hb C.2.2.2.2.2.2.2.1 hS.2 (inb_in b_3) rfl dX7_lineSum_33 ?_
      obtain ⟨b_4, h⟩ := ift h
      refine r_iald C hS rfl rfl b_4 dX7_lineSum_34 ?_
      obtain ⟨⟨r_5, M_6⟩, hq_7, h⟩ := ob h
      try dsimp only at h
      refine r_thenI hS (r_runV C hS hl.1 cv_X7_28 k1 (c_X9_lettersOf l G F a1 (M.1 62 (zLines.getD x4.toNatClampNeg 0).toNatClampNeg) M k1 _ hq_7) ⟨by decide, by decide⟩ rfl rfl (Nat.le_of_ble_eq_true rfl) ⟨Nat.zero_le _, Nat.zero_le _⟩ dX7_lineSum_35) (fun H locs hS => ?_)
      refine lv_iadd hx hb dX7_lineSum_38 ?_
      obtain ⟨x3_8, e_9, h⟩ := olt h
      refine r_nI e_9 ?_
      refine lv_istore_n (lv' := [(3, .int x3_8), (0, .ref (G.1 + 61)), (1, .ref (G.1 + a1)), (2, .int x2), (4, .int x4)]) hx hb dX7_lineSum_39 rfl hl (by decide) rfl (fun ls hl => ?_)
      obtain ⟨x4_10, e_11, h⟩ := olt h
      refine lv_iinc (v := x4_10) (lv' := [(4, .int x4_10), (3, .int x3_8), (0, .ref (G.1 + 61)), (1, .ref (G.1 + a1)), (2, .int x2)]) hx hb dX7_lineSum_40 hl (k := 4) rfl (by rw [e_11]; rfl) (by decide) rfl (fun ls hl => ?_)
      refine lv_goto (tgt := 5) hx hb dX7_lineSum_43 (by decide) ?_
      obtain rfl := Option.some.inj h
      exact hE _ _ _ hS (lv_sub hl [2, 3, 4, 1, 0] rfl)
set_option maxHeartbeats 4000000 in
set_option maxRecDepth 100000 in
theorem c_X7_lineSum (l : Launch) (G : Gl) (F : Nat) (a1 : Nat) (x2 : Int32) (M : zM) (k1 : zK a1 = 9) (q : Int32 × zM) (h : Squ_lineSum F a1 x2 M = some q) : Met l yX7_lineSum (wsM yX7_lineSum cX7_lineSum 5 (some .int)) (rmM 2 42) (Pre G M [.ref (G.1 + 61), .ref (G.1 + a1), .int x2]) (PoI G q) 0 0 (gA G) := by
  refine r_met (own := RX7) rfl (by decide) (Nat.le_of_ble_eq_true rfl) ?_
  intro p e s m below meth c ls C hr hlk hS hl
  have hl : lv_has ls 5 [(0, .ref (G.1 + 61)), (1, .ref (G.1 + a1)), (2, .int x2)] := hl
  obtain ⟨hx, hb, -⟩ := id C
  unfold Squ_lineSum at h
  refine lv_iconst (v := 0) hx hb dX7_lineSum_0 (by decide) ?_
  refine lv_istore_n (lv' := [(3, .int 0), (0, .ref (G.1 + 61)), (1, .ref (G.1 + a1)), (2, .int x2)]) hx hb dX7_lineSum_1 rfl hl (by decide) rfl (fun ls hl => ?_)
  refine lv_iload_n hx hb dX7_lineSum_2 rfl (lv_at hl 3 rfl) ?_
  refine lv_istore (lv' := [(4, .int x2), (3, .int 0), (0, .ref (G.1 + 61)), (1, .ref (G.1 + a1)), (2, .int x2)]) hx hb dX7_lineSum_3 hl (by decide) rfl (fun ls hl => ?_)
  obtain ⟨⟨k_15, x3_12, x4_13, M_14⟩, hq_16, h⟩ := ob h
  try dsimp only at h
  refine loopW (E := (E_Squ_lineSum_5 G p l e s m _ below meth c _ a1 x2)) (w_Squ_lineSum_B5 C a1 x2 k1 F) F _ _ hq_16 ?_ _ _ _ hS (lv_sub hl [2, 3, 4, 1, 0] rfl)
  by_cases ek_17 : k_15 = 1
  · replace h := ifp ek_17 h
    subst ek_17
    intro H locs ls hS hl
    refine lv_iload_n hx hb dX7_lineSum_46 rfl (lv_at hl 0 rfl) ?_
    exact r_iret C hS hr hlk h dX7_lineSum_47
  · replace h := ifn ek_17 h
    cases h
def E_Squ_holdsIn_2 (G : Gl) (p : Program) (l : Launch) (e : Env) (s : State) (m : MethodId) (args : Array Value) (below : List Frame) (meth : Method) (c : Code) (Q : State → Prop) (a1 : Nat) : Nat → (Int32 × zM) → Prop := fun k (x2, M) => match k with
  | 0 => ∀ (H : Heap) (locs : List Loc) (ls : Array Slot), St G M s H locs → lv_has ls 4 [(0, .ref (G.1 + 61)), (1, .ref (G.1 + a1)), (2, .int x2)] → W p l e (rmM 3 66) s m args below meth c H locs 0 0 Q (F0 m 2 ls [])
  | 1 => ∀ (H : Heap) (locs : List Loc) (ls : Array Slot), St G M s H locs → lv_has ls 4 [] → W p l e (rmM 3 66) s m args below meth c H locs 0 0 Q (F0 m 21 ls [])
  | 2 => ∀ (H : Heap) (locs : List Loc) (ls : Array Slot), St G M s H locs → lv_has ls 4 [(0, .ref (G.1 + 61)), (1, .ref (G.1 + a1))] → W p l e (rmM 3 66) s m args below meth c H locs 0 0 Q (F0 m 29 ls [])
  | _ => True
set_option maxHeartbeats 4000000 in
set_option maxRecDepth 100000 in
theorem w_Squ_holdsIn_B2 {G : Gl} {p : Program} {l : Launch} {e : Env} {s : State} {m : MethodId} {args : Array Value} {below : List Frame} {meth : Method} {c : Code} {Q : State → Prop} (C : Cx G cX7_holdsIn 4 RX7 p s m args c) (a1 : Nat) (k1 : zK a1 = 9) (F : Nat) : ∀ (σ : (Int32 × zM)) (q : Nat × (Int32 × zM)), Squ_holdsIn_B2 F a1 σ = some q → (E_Squ_holdsIn_2 G p l e s m args below meth c Q a1) q.1 q.2 → (E_Squ_holdsIn_2 G p l e s m args below meth c Q a1) 0 σ := by
  intro (x2, M) q h hE H locs ls hS hl
  obtain ⟨hx, hb, -⟩ := id C
  unfold Squ_holdsIn_B2 at h
  try dsimp only at h
  refine lv_iload_n hx hb dX7_holdsIn_2 rfl (lv_at hl 2 rfl) ?_
  refine lv_bipush (v := 9) hx hb dX7_holdsIn_3 (by decide) ?_
  refine lv_icmp_ge (tgt := 29) hx hb dX7_holdsIn_5 (by decide) (fun c_1 => ?_) (fun c_1 => ?_)
  · replace h := ifp c_1 h
    obtain rfl := Option.some.inj h
    exact hE _ _ _ hS (lv_sub hl [0, 1] rfl)
  · replace h := ifn c_1 h
    refine lv_aload_n hx hb dX7_holdsIn_8 rfl (lv_at hl 1 rfl) ?_
    refine lv_aload_n hx hb dX7_holdsIn_9 rfl (lv_at hl 0 rfl) ?_
    refine r_gR C hS fl_X7_11 rfl rfl rfl dX7_holdsIn_10 ?_
    refine lv_iload_n hx hb dX7_holdsIn_13 rfl (lv_at hl 2 rfl) ?_
    obtain ⟨b_2, h⟩ := ift h
    refine r_iald C hS rfl rfl b_2 dX7_holdsIn_14 ?_
    obtain ⟨⟨r_3, M_4⟩, hq_5, h⟩ := ob h
    try dsimp only at h
    refine r_thenI hS (r_runV C hS hl.1 cv_X7_15 k1 (c_X9_has l G F a1 (M.1 62 x2.toNatClampNeg) M k1 _ hq_5) ⟨by decide, by decide⟩ rfl rfl (Nat.le_of_ble_eq_true rfl) ⟨Nat.zero_le _, Nat.zero_le _⟩ dX7_holdsIn_15) (fun H locs hS => ?_)
    refine lv_if_ne (tgt := 23) hx hb dX7_holdsIn_18 (by decide) (fun c_6 => ?_) (fun c_6 => ?_)
    · replace h := ifn c_6 h
      obtain ⟨x2_7, e_8, h⟩ := olt h
      refine lv_iinc (v := x2_7) (lv' := [(2, .int x2_7), (0, .ref (G.1 + 61)), (1, .ref (G.1 + a1))]) hx hb dX7_holdsIn_23 hl (k := 2) rfl (by rw [e_8]; rfl) (by decide) rfl (fun ls hl => ?_)
      refine lv_goto (tgt := 2) hx hb dX7_holdsIn_26 (by decide) ?_
      obtain rfl := Option.some.inj h
      exact hE _ _ _ hS (lv_sub hl [1, 2, 0] rfl)
    · replace h := ifp c_6 h
      obtain rfl := Option.some.inj h
      exact hE _ _ _ hS (lv_sub hl [] rfl)
def E_Squ_holdsIn_38 (G : Gl) (p : Program) (l : Launch) (e : Env) (s : State) (m : MethodId) (args : Array Value) (below : List Frame) (meth : Method) (c : Code) (Q : State → Prop) (a1 : Nat) (x2 : Int32) : Nat → (Int32 × zM) → Prop := fun k (x3, M) => match k with
  | 0 => ∀ (H : Heap) (locs : List Loc) (ls : Array Slot), St G M s H locs → lv_has ls 4 [(0, .ref (G.1 + 61)), (1, .ref (G.1 + a1)), (2, .int x2), (3, .int x3)] → W p l e (rmM 3 66) s m args below meth c H locs 0 0 Q (F0 m 38 ls [])
  | 1 => ∀ (H : Heap) (locs : List Loc) (ls : Array Slot), St G M s H locs → lv_has ls 4 [] → W p l e (rmM 3 66) s m args below meth c H locs 0 0 Q (F0 m 56 ls [])
  | 2 => ∀ (H : Heap) (locs : List Loc) (ls : Array Slot), St G M s H locs → lv_has ls 4 [] → W p l e (rmM 3 66) s m args below meth c H locs 0 0 Q (F0 m 64 ls [])
  | _ => True
set_option maxHeartbeats 4000000 in
set_option maxRecDepth 100000 in
theorem w_Squ_holdsIn_B38 {G : Gl} {p : Program} {l : Launch} {e : Env} {s : State} {m : MethodId} {args : Array Value} {below : List Frame} {meth : Method} {c : Code} {Q : State → Prop} (C : Cx G cX7_holdsIn 4 RX7 p s m args c) (a1 : Nat) (x2 : Int32) (k1 : zK a1 = 9) (F : Nat) : ∀ (σ : (Int32 × zM)) (q : Nat × (Int32 × zM)), Squ_holdsIn_B38 F a1 x2 σ = some q → (E_Squ_holdsIn_38 G p l e s m args below meth c Q a1 x2) q.1 q.2 → (E_Squ_holdsIn_38 G p l e s m args below meth c Q a1 x2) 0 σ := by
  intro (x3, M) q h hE H locs ls hS hl
  obtain ⟨hx, hb, -⟩ := id C
  unfold Squ_holdsIn_B38 at h
  try dsimp only at h
  refine lv_iload_n hx hb dX7_holdsIn_38 rfl (lv_at hl 3 rfl) ?_
  refine va_gets hx hb C.2.2.2.2.2.2.1 hS.2 C.2.2.2.1 (C.2.2.2.2.1 _ tw_874) (fun _ h => h) dX7_holdsIn_39 ?_
  refine va_tlen hx hb C.2.2.2.2.2.2.2.1 hS.2 (v := 24) rfl dX7_holdsIn_42 ?_
  refine lv_icmp_ge (tgt := 64) hx hb dX7_holdsIn_43 (by decide) (fun c_16 => ?_) (fun c_16 => ?_)
  · replace h := ifp c_16 h
    obtain rfl := Option.some.inj h
    exact hE _ _ _ hS (lv_sub hl [] rfl)
  · replace h := ifn c_16 h
    refine lv_aload_n hx hb dX7_holdsIn_46 rfl (lv_at hl 0 rfl) ?_
    refine lv_aload_n hx hb dX7_holdsIn_47 rfl (lv_at hl 1 rfl) ?_
    refine lv_iload_n hx hb dX7_holdsIn_48 rfl (lv_at hl 3 rfl) ?_
    obtain ⟨⟨r_17, M_18⟩, hq_19, h⟩ := ob h
    try dsimp only at h
    refine r_thenI hS (r_runV C hS hl.1 cv_X7_21 rfl (c_X7_lineSum l G F a1 x3 M k1 _ hq_19) ⟨by decide, by decide⟩ rfl rfl (Nat.le_of_ble_eq_true rfl) ⟨Nat.zero_le _, Nat.zero_le _⟩ dX7_holdsIn_49) (fun H locs hS => ?_)
    refine lv_iload_n hx hb dX7_holdsIn_52 rfl (lv_at hl 2 rfl) ?_
    refine lv_icmp_eq (tgt := 58) hx hb dX7_holdsIn_53 (by decide) (fun c_20 => ?_) (fun c_20 => ?_)
    · replace h := ifp c_20 h
      obtain ⟨x3_21, e_22, h⟩ := olt h
      refine lv_iinc (v := x3_21) (lv' := [(3, .int x3_21), (0, .ref (G.1 + 61)), (1, .ref (G.1 + a1)), (2, .int x2)]) hx hb dX7_holdsIn_58 hl (k := 3) rfl (by rw [e_22]; rfl) (by decide) rfl (fun ls hl => ?_)
      refine lv_goto (tgt := 38) hx hb dX7_holdsIn_61 (by decide) ?_
      obtain rfl := Option.some.inj h
      exact hE _ _ _ hS (lv_sub hl [1, 2, 3, 0] rfl)
    · replace h := ifn c_20 h
      obtain rfl := Option.some.inj h
      exact hE _ _ _ hS (lv_sub hl [] rfl)
set_option maxHeartbeats 4000000 in
set_option maxRecDepth 100000 in
theorem c_X7_holdsIn (l : Launch) (G : Gl) (F : Nat) (a1 : Nat) (M : zM) (k1 : zK a1 = 9) (q : Int32 × zM) (h : Squ_holdsIn F a1 M = some q) : Met l yX7_holdsIn (wsM yX7_holdsIn cX7_holdsIn 4 (some .boolean)) (rmM 3 66) (Pre G M [.ref (G.1 + 61), .ref (G.1 + a1)]) (PoI G q) 0 0 (gA G) := by
  refine r_met (own := RX7) rfl (by decide) (Nat.le_of_ble_eq_true rfl) ?_
  intro p e s m below meth c ls C hr hlk hS hl
  have hl : lv_has ls 4 [(0, .ref (G.1 + 61)), (1, .ref (G.1 + a1))] := hl
  obtain ⟨hx, hb, -⟩ := id C
  unfold Squ_holdsIn at h
  refine lv_iconst (v := 0) hx hb dX7_holdsIn_0 (by decide) ?_
  refine lv_istore_n (lv' := [(2, .int 0), (0, .ref (G.1 + 61)), (1, .ref (G.1 + a1))]) hx hb dX7_holdsIn_1 rfl hl (by decide) rfl (fun ls hl => ?_)
  obtain ⟨⟨k_11, x2_9, M_10⟩, hq_12, h⟩ := ob h
  try dsimp only at h
  refine loopW (E := (E_Squ_holdsIn_2 G p l e s m _ below meth c _ a1)) (w_Squ_holdsIn_B2 C a1 k1 F) F _ _ hq_12 ?_ _ _ _ hS (lv_sub hl [1, 2, 0] rfl)
  by_cases ek_30 : k_11 = 1
  · replace h := ifp ek_30 h
    subst ek_30
    intro H locs ls hS hl
    refine lv_iconst (v := 0) hx hb dX7_holdsIn_21 (by decide) ?_
    exact r_zret C hS hr hlk h dX7_holdsIn_22
  · replace h := ifn ek_30 h
    by_cases ek_29 : k_11 = 2
    · replace h := ifp ek_29 h
      subst ek_29
      intro H locs ls hS hl
      refine lv_aload_n hx hb dX7_holdsIn_29 rfl (lv_at hl 0 rfl) ?_
      refine lv_aload_n hx hb dX7_holdsIn_30 rfl (lv_at hl 1 rfl) ?_
      refine lv_iconst (v := 0) hx hb dX7_holdsIn_31 (by decide) ?_
      obtain ⟨⟨r_13, M_14⟩, hq_15, h⟩ := ob h
      try dsimp only at h
      refine r_thenI hS (r_runV C hS hl.1 cv_X7_21 rfl (c_X7_lineSum l G F a1 0 M_10 k1 _ hq_15) ⟨by decide, by decide⟩ rfl rfl (Nat.le_of_ble_eq_true rfl) ⟨Nat.zero_le _, Nat.zero_le _⟩ dX7_holdsIn_32) (fun H locs hS => ?_)
      refine lv_istore_n (lv' := [(2, .int r_13), (0, .ref (G.1 + 61)), (1, .ref (G.1 + a1))]) hx hb dX7_holdsIn_35 rfl hl (by decide) rfl (fun ls hl => ?_)
      refine lv_iconst (v := 3) hx hb dX7_holdsIn_36 (by decide) ?_
      refine lv_istore_n (lv' := [(3, .int 3), (2, .int r_13), (0, .ref (G.1 + 61)), (1, .ref (G.1 + a1))]) hx hb dX7_holdsIn_37 rfl hl (by decide) rfl (fun ls hl => ?_)
      obtain ⟨⟨k_25, x3_23, M_24⟩, hq_26, h⟩ := ob h
      try dsimp only at h
      refine loopW (E := (E_Squ_holdsIn_38 G p l e s m _ below meth c _ a1 r_13)) (w_Squ_holdsIn_B38 C a1 r_13 k1 F) F _ _ hq_26 ?_ _ _ _ hS (lv_sub hl [2, 3, 1, 0] rfl)
      by_cases ek_28 : k_25 = 1
      · replace h := ifp ek_28 h
        subst ek_28
        intro H locs ls hS hl
        refine lv_iconst (v := 0) hx hb dX7_holdsIn_56 (by decide) ?_
        exact r_zret C hS hr hlk h dX7_holdsIn_57
      · replace h := ifn ek_28 h
        by_cases ek_27 : k_25 = 2
        · replace h := ifp ek_27 h
          subst ek_27
          intro H locs ls hS hl
          refine lv_iconst (v := 1) hx hb dX7_holdsIn_64 (by decide) ?_
          exact r_zret C hS hr hlk h dX7_holdsIn_65
        · replace h := ifn ek_27 h
          cases h
    · replace h := ifn ek_29 h
      cases h

set_option maxHeartbeats 4000000 in
set_option maxRecDepth 100000 in
theorem c_X10_led (l : Launch) (G : Gl) (F : Nat) (x1 : Int32) (x2 : Int32) (x3 : Int32) (M : zM)  (q : Int32 × zM) (h : NW_led F x1 x2 x3 M = some q) : Met l yX10_led (wsM yX10_led cX10_led 5 (some .int)) (rmM 4 96) (Pre G M [.ref (G.1 + 0), .int x1, .int x2, .int x3]) (PoI G q) 0 0 (gA G) := by
  refine r_met (own := RX10) rfl (by decide) (Nat.le_of_ble_eq_true rfl) ?_
  intro p e s m below meth c ls C hr hlk hS hl
  have hl : lv_has ls 5 [(0, .ref (G.1 + 0)), (1, .int x1), (2, .int x2), (3, .int x3)] := hl
  obtain ⟨hx, hb, -⟩ := id C
  unfold NW_led at h
  refine lv_iload_n hx hb dX10_led_0 rfl (lv_at hl 1 rfl) ?_
  obtain ⟨⟨r_1, M_2⟩, hq_3, h⟩ := ob h
  try dsimp only at h
  refine r_thenI hS (r_runS C hS hl.1 cs_X10_100 (c_X10_isTongue l G F x1 M  _ hq_3) ⟨by decide, by decide⟩ rfl rfl (Nat.le_of_ble_eq_true rfl) ⟨Nat.zero_le _, Nat.zero_le _⟩ dX10_led_1) (fun H locs hS => ?_)
  refine lv_if_eq (tgt := 14) hx hb dX10_led_4 (by decide) (fun c_4 => ?_) (fun c_4 => ?_)
  · replace h := ifp c_4 h
    refine lv_sipush (v := (-1001)) hx hb dX10_led_14 (by decide) ?_
    exact r_iret C hS hr hlk h dX10_led_17
  · replace h := ifn c_4 h
    refine lv_iload_n hx hb dX10_led_7 rfl (lv_at hl 2 rfl) ?_
    obtain ⟨⟨r_5, M_6⟩, hq_7, h⟩ := ob h
    try dsimp only at h
    refine r_thenI hS (r_runS C hS hl.1 cs_X10_100 (c_X10_isTongue l G F x2 M_2  _ hq_7) ⟨by decide, by decide⟩ rfl rfl (Nat.le_of_ble_eq_true rfl) ⟨Nat.zero_le _, Nat.zero_le _⟩ dX10_led_8) (fun H locs hS => ?_)
    refine lv_if_ne (tgt := 18) hx hb dX10_led_11 (by decide) (fun c_8 => ?_) (fun c_8 => ?_)
    · replace h := ifn c_8 h
      refine lv_aload_n hx hb dX10_led_18 rfl (lv_at hl 0 rfl) ?_
      refine r_gR C hS fl_X10_70 rfl rfl rfl dX10_led_19 ?_
      refine lv_iconst (v := 0) hx hb dX10_led_22 (by decide) ?_
      refine lv_aload_n hx hb dX10_led_23 rfl (lv_at hl 0 rfl) ?_
      refine r_gR C hS fl_X10_58 rfl rfl rfl dX10_led_24 ?_
      obtain ⟨⟨_r_9, M_10⟩, hq_11, h⟩ := ob h
      try dsimp only at h
      refine r_thenV hS (r_runV C hS hl.1 cv_X10_192 rfl (c_X6_put l G F 57 0 53 M_6 rfl rfl _ hq_11) ⟨by decide, by decide⟩ rfl rfl (Nat.le_of_ble_eq_true rfl) ⟨Nat.zero_le _, Nat.zero_le _⟩ dX10_led_27) (fun H locs hS => ?_)
      refine lv_aload_n hx hb dX10_led_30 rfl (lv_at hl 0 rfl) ?_
      refine r_gR C hS fl_X10_34 rfl rfl rfl dX10_led_31 ?_
      refine lv_iload_n hx hb dX10_led_34 rfl (lv_at hl 1 rfl) ?_
      obtain ⟨b_12, h⟩ := ift h
      refine r_aald C hS rfl rfl b_12 (zR_13 b_12) dX10_led_35 ?_
      refine lv_aload_n hx hb dX10_led_36 rfl (lv_at hl 0 rfl) ?_
      refine r_gR C hS fl_X10_70 rfl rfl rfl dX10_led_37 ?_
      refine lv_iconst (v := 0) hx hb dX10_led_40 (by decide) ?_
      refine lv_iconst (v := 0) hx hb dX10_led_41 (by decide) ?_
      obtain ⟨⟨r_13, M_14⟩, hq_15, h⟩ := ob h
      try dsimp only at h
      refine r_thenI hS (r_runV C hS hl.1 cv_X10_196 (zK_13 b_12) (c_X9_reading l G F (tgA x1) 57 0 0 M_10 (zK_13 b_12) rfl _ hq_15) ⟨by decide, by decide⟩ rfl rfl (Nat.le_of_ble_eq_true rfl) ⟨Nat.zero_le _, Nat.zero_le _⟩ dX10_led_42) (fun H locs hS => ?_)
      refine lv_istore (lv' := [(4, .int r_13), (0, .ref (G.1 + 0)), (1, .int x1), (2, .int x2), (3, .int x3)]) hx hb dX10_led_45 hl (by decide) rfl (fun ls hl => ?_)
      refine lv_iload hx hb dX10_led_47 (lv_at hl 0 rfl) ?_
      refine lv_iconst (v := (-1)) hx hb dX10_led_49 (by decide) ?_
      refine lv_icmp_eq (tgt := 67) hx hb dX10_led_50 (by decide) (fun c_16 => ?_) (fun c_16 => ?_)
      · replace h := ifp c_16 h
        refine lv_sipush (v := (-1003)) hx hb dX10_led_67 (by decide) ?_
        exact r_iret C hS hr hlk h dX10_led_70
      · replace h := ifn c_16 h
        refine lv_aload_n hx hb dX10_led_53 rfl (lv_at hl 1 rfl) ?_
        refine r_gR C hS fl_X10_34 rfl rfl rfl dX10_led_54 ?_
        refine lv_iload_n hx hb dX10_led_57 rfl (lv_at hl 3 rfl) ?_
        obtain ⟨b_17, h⟩ := ift h
        refine r_aald C hS rfl rfl b_17 (zR_13 b_17) dX10_led_58 ?_
        refine lv_iload hx hb dX10_led_59 (lv_at hl 0 rfl) ?_
        obtain ⟨⟨r_18, M_19⟩, hq_20, h⟩ := ob h
        try dsimp only at h
        refine r_thenI hS (r_runV C hS hl.1 cv_X10_208 (zK_13 b_17) (c_X9_has l G F (tgA x2) r_13 M_14 (zK_13 b_17) _ hq_20) ⟨by decide, by decide⟩ rfl rfl (Nat.le_of_ble_eq_true rfl) ⟨Nat.zero_le _, Nat.zero_le _⟩ dX10_led_61) (fun H locs hS => ?_)
        refine lv_if_ne (tgt := 71) hx hb dX10_led_64 (by decide) (fun c_21 => ?_) (fun c_21 => ?_)
        · replace h := ifn c_21 h
          refine lv_aload_n hx hb dX10_led_71 rfl (lv_at hl 1 rfl) ?_
          refine r_gR C hS fl_X10_34 rfl rfl rfl dX10_led_72 ?_
          refine lv_iload_n hx hb dX10_led_75 rfl (lv_at hl 3 rfl) ?_
          refine r_aald C hS rfl rfl b_17 (zR_13 b_17) dX10_led_76 ?_
          refine lv_iload hx hb dX10_led_77 (lv_at hl 0 rfl) ?_
          refine lv_iload_n hx hb dX10_led_79 rfl (lv_at hl 4 rfl) ?_
          obtain ⟨⟨r_22, M_23⟩, hq_24, h⟩ := ob h
          try dsimp only at h
          refine r_thenI hS (r_runV C hS hl.1 cv_X10_142 (zK_13 b_17) (c_X9_sizeOrByte l G F (tgA x2) r_13 x3 M_19 (zK_13 b_17) _ hq_24) ⟨by decide, by decide⟩ rfl rfl (Nat.le_of_ble_eq_true rfl) ⟨Nat.zero_le _, Nat.zero_le _⟩ dX10_led_80) (fun H locs hS => ?_)
          exact r_iret C hS hr hlk h dX10_led_83
        · replace h := ifp c_21 h
          refine lv_sipush (v := (-1003)) hx hb dX10_led_67 (by decide) ?_
          exact r_iret C hS hr hlk h dX10_led_70
    · replace h := ifp c_8 h
      refine lv_sipush (v := (-1001)) hx hb dX10_led_14 (by decide) ?_
      exact r_iret C hS hr hlk h dX10_led_17
def E_NW_chain_54 (G : Gl) (p : Program) (l : Launch) (e : Env) (s : State) (m : MethodId) (args : Array Value) (below : List Frame) (meth : Method) (c : Code) (Q : State → Prop) (x2 : Int32) (x3 : Int32) (a4 : Nat) : Nat → (Int32 × Int32 × Int32 × Int64 × Int32 × zM) → Prop := fun k (x5, x6, x7, x8, x10, M) => match k with
  | 0 => ∀ (H : Heap) (locs : List Loc) (ls : Array Slot), St G M s H locs → lv_has ls 12 [(2, .int x2), (3, .int x3), (4, .ref (G.1 + a4)), (5, .int x5), (6, .int x6), (7, .int x7), (8, .long x8), (10, .int x10)] → W p l e (rmM 2 42) s m args below meth c H locs 0 0 Q (F0 m 54 ls [])
  | 1 => ∀ (H : Heap) (locs : List Loc) (ls : Array Slot), St G M s H locs → lv_has ls 12 [(3, .int x3), (5, .int x5), (6, .int x6), (7, .int x7)] → W p l e (rmM 2 42) s m args below meth c H locs 0 0 Q (F0 m 133 ls [])
  | _ => True
set_option maxHeartbeats 4000000 in
set_option maxRecDepth 100000 in
theorem w_NW_chain_B54 {G : Gl} {p : Program} {l : Launch} {e : Env} {s : State} {m : MethodId} {args : Array Value} {below : List Frame} {meth : Method} {c : Code} {Q : State → Prop} (C : Cx G cX10_chain 12 RX10 p s m args c) (x2 : Int32) (x3 : Int32) (a4 : Nat) (k4 : zK a4 = 9) (F : Nat) : ∀ (σ : (Int32 × Int32 × Int32 × Int64 × Int32 × zM)) (q : Nat × (Int32 × Int32 × Int32 × Int64 × Int32 × zM)), NW_chain_B54 F x2 x3 a4 σ = some q → (E_NW_chain_54 G p l e s m args below meth c Q x2 x3 a4) q.1 q.2 → (E_NW_chain_54 G p l e s m args below meth c Q x2 x3 a4) 0 σ := by
  intro (x5, x6, x7, x8, x10, M) q h hE H locs ls hS hl
  obtain ⟨hx, hb, -⟩ := id C
  unfold NW_chain_B54 at h
  try dsimp only at h
  refine lv_iload hx hb dX10_chain_54 (lv_at hl 7 rfl) ?_
  refine lv_bipush (v := 61) hx hb dX10_chain_56 (by decide) ?_
  refine lv_icmp_gt (tgt := 133) hx hb dX10_chain_58 (by decide) (fun c_12 => ?_) (fun c_12 => ?_)
  · replace h := ifp c_12 h
    obtain rfl := Option.some.inj h
    exact hE _ _ _ hS (lv_sub hl [1, 3, 4, 5] rfl)
  · replace h := ifn c_12 h
    refine lv_aload hx hb dX10_chain_61 (lv_at hl 2 rfl) ?_
    refine lv_iload hx hb dX10_chain_63 (lv_at hl 4 rfl) ?_
    obtain ⟨⟨r_13, M_14⟩, hq_15, h⟩ := ob h
    try dsimp only at h
    refine r_thenI hS (r_runV C hS hl.1 cv_X10_208 k4 (c_X9_has l G F a4 x6 M k4 _ hq_15) ⟨by decide, by decide⟩ rfl rfl (Nat.le_of_ble_eq_true rfl) ⟨Nat.zero_le _, Nat.zero_le _⟩ dX10_chain_65) (fun H locs hS => ?_)
    refine lv_if_eq (tgt := 133) hx hb dX10_chain_68 (by decide) (fun c_16 => ?_) (fun c_16 => ?_)
    · replace h := ifp c_16 h
      obtain rfl := Option.some.inj h
      exact hE _ _ _ hS (lv_sub hl [1, 3, 4, 5] rfl)
    · replace h := ifn c_16 h
      refine lv_iload hx hb dX10_chain_71 (lv_at hl 5 rfl) ?_
      refine lv_iconst (v := (-1)) hx hb dX10_chain_73 (by decide) ?_
      refine lv_icmp_ne (tgt := 133) hx hb dX10_chain_74 (by decide) (fun c_17 => ?_) (fun c_17 => ?_)
      · replace h := ifn c_17 h
        obtain rfl := Option.some.inj h
        exact hE _ _ _ hS (lv_sub hl [1, 3, 4, 5] rfl)
      · replace h := ifp c_17 h
        refine lv_aload hx hb dX10_chain_77 (lv_at hl 2 rfl) ?_
        refine lv_iload hx hb dX10_chain_79 (lv_at hl 4 rfl) ?_
        obtain ⟨⟨r_18, M_19⟩, hq_20, h⟩ := ob h
        try dsimp only at h
        refine r_thenI hS (r_runV C hS hl.1 cv_X10_146 k4 (c_X9_lettersOf l G F a4 x6 M_14 k4 _ hq_20) ⟨by decide, by decide⟩ rfl rfl (Nat.le_of_ble_eq_true rfl) ⟨Nat.zero_le _, Nat.zero_le _⟩ dX10_chain_81) (fun H locs hS => ?_)
        refine lv_istore (lv' := [(11, .int r_18), (2, .int x2), (3, .int x3), (4, .ref (G.1 + a4)), (5, .int x5), (6, .int x6), (7, .int x7), (8, .long x8), (10, .int x10)]) hx hb dX10_chain_84 hl (by decide) rfl (fun ls hl => ?_)
        refine lv_iload hx hb dX10_chain_86 (lv_at hl 0 rfl) ?_
        refine lv_iload_n hx hb dX10_chain_88 rfl (lv_at hl 1 rfl) ?_
        refine lv_icmp_eq (tgt := 104) hx hb dX10_chain_89 (by decide) (fun c_21 => ?_) (fun c_21 => ?_)
        · replace h := ifp c_21 h
          refine lv_iload hx hb dX10_chain_104 (lv_at hl 0 rfl) ?_
          refine lv_istore (lv' := [(7, .int r_18), (11, .int r_18), (2, .int x2), (3, .int x3), (4, .ref (G.1 + a4)), (5, .int x5), (6, .int x6), (8, .long x8), (10, .int x10)]) hx hb dX10_chain_106 hl (by decide) rfl (fun ls hl => ?_)
          refine lv_goto (tgt := 127) hx hb dX10_chain_108 (by decide) ?_
          obtain ⟨x10_22, e_23, h⟩ := olt h
          refine lv_iinc (v := x10_22) (lv' := [(10, .int x10_22), (7, .int r_18), (11, .int r_18), (2, .int x2), (3, .int x3), (4, .ref (G.1 + a4)), (5, .int x5), (6, .int x6), (8, .long x8)]) hx hb dX10_chain_127 hl (k := 8) rfl (by rw [e_23]; rfl) (by decide) rfl (fun ls hl => ?_)
          refine lv_goto (tgt := 54) hx hb dX10_chain_130 (by decide) ?_
          obtain rfl := Option.some.inj h
          exact hE _ _ _ hS (lv_sub hl [3, 4, 5, 6, 7, 1, 8, 0] rfl)
        · replace h := ifn c_21 h
          refine lv_lload hx hb dX10_chain_92 (lv_at hl 7 rfl) ?_
          refine lv_iload hx hb dX10_chain_94 (lv_at hl 0 rfl) ?_
          refine lv_lshr (v := sr x8 r_18) hx hb dX10_chain_96 rfl ?_
          refine lv_lconst (v := 1) hx hb dX10_chain_97 (by decide) ?_
          refine lv_land hx hb dX10_chain_98 ?_
          refine lv_lconst (v := 0) hx hb dX10_chain_99 (by decide) ?_
          refine W.lcmp hx hb dX10_chain_100 ?_
          refine lv_if_eq (tgt := 111) hx hb dX10_chain_101 (by decide) (fun c_24 => ?_) (fun c_24 => ?_)
          · replace h := ifp c_24 h
            refine lv_lload hx hb dX10_chain_111 (lv_at hl 7 rfl) ?_
            refine lv_lconst (v := 1) hx hb dX10_chain_113 (by decide) ?_
            refine lv_iload hx hb dX10_chain_114 (lv_at hl 0 rfl) ?_
            refine lv_lshl (v := sl 1 r_18) hx hb dX10_chain_116 rfl ?_
            refine lv_lor hx hb dX10_chain_117 ?_
            obtain ⟨x8_25, e_26, h⟩ := olt h
            refine r_nL e_26 ?_
            refine lv_lstore (lv' := [(8, .long x8_25), (11, .int r_18), (2, .int x2), (3, .int x3), (4, .ref (G.1 + a4)), (5, .int x5), (6, .int x6), (7, .int x7), (10, .int x10)]) hx hb dX10_chain_118 hl (by decide) rfl (fun ls hl => ?_)
            refine lv_iload hx hb dX10_chain_120 (lv_at hl 1 rfl) ?_
            refine lv_istore (lv' := [(6, .int r_18), (8, .long x8_25), (11, .int r_18), (2, .int x2), (3, .int x3), (4, .ref (G.1 + a4)), (5, .int x5), (7, .int x7), (10, .int x10)]) hx hb dX10_chain_122 hl (by decide) rfl (fun ls hl => ?_)
            obtain ⟨x5_27, e_28, h⟩ := olt h
            refine lv_iinc (v := x5_27) (lv' := [(5, .int x5_27), (6, .int r_18), (8, .long x8_25), (11, .int r_18), (2, .int x2), (3, .int x3), (4, .ref (G.1 + a4)), (7, .int x7), (10, .int x10)]) hx hb dX10_chain_124 hl (k := 6) rfl (by rw [e_28]; rfl) (by decide) rfl (fun ls hl => ?_)
            obtain ⟨x10_29, e_30, h⟩ := olt h
            refine lv_iinc (v := x10_29) (lv' := [(10, .int x10_29), (5, .int x5_27), (6, .int r_18), (8, .long x8_25), (11, .int r_18), (2, .int x2), (3, .int x3), (4, .ref (G.1 + a4)), (7, .int x7)]) hx hb dX10_chain_127 hl (k := 8) rfl (by rw [e_30]; rfl) (by decide) rfl (fun ls hl => ?_)
            refine lv_goto (tgt := 54) hx hb dX10_chain_130 (by decide) ?_
            obtain rfl := Option.some.inj h
            exact hE _ _ _ hS (lv_sub hl [5, 6, 7, 1, 2, 8, 3, 0] rfl)
          · replace h := ifn c_24 h
            refine lv_iload hx hb dX10_chain_104 (lv_at hl 0 rfl) ?_
            refine lv_istore (lv' := [(7, .int r_18), (11, .int r_18), (2, .int x2), (3, .int x3), (4, .ref (G.1 + a4)), (5, .int x5), (6, .int x6), (8, .long x8), (10, .int x10)]) hx hb dX10_chain_106 hl (by decide) rfl (fun ls hl => ?_)
            refine lv_goto (tgt := 127) hx hb dX10_chain_108 (by decide) ?_
            obtain ⟨x10_31, e_32, h⟩ := olt h
            refine lv_iinc (v := x10_31) (lv' := [(10, .int x10_31), (7, .int r_18), (11, .int r_18), (2, .int x2), (3, .int x3), (4, .ref (G.1 + a4)), (5, .int x5), (6, .int x6), (8, .long x8)]) hx hb dX10_chain_127 hl (k := 8) rfl (by rw [e_32]; rfl) (by decide) rfl (fun ls hl => ?_)
            refine lv_goto (tgt := 54) hx hb dX10_chain_130 (by decide) ?_
            obtain rfl := Option.some.inj h
            exact hE _ _ _ hS (lv_sub hl [3, 4, 5, 6, 7, 1, 8, 0] rfl)
set_option maxHeartbeats 4000000 in
set_option maxRecDepth 100000 in
theorem w_NW_chain_J133 {G : Gl} {p : Program} {l : Launch} {e : Env} {s : State} {m : MethodId} {args : Array Value} {below : List Frame} {meth : Method} {c : Code} (C : Cx G cX10_chain 12 RX10 p s m args c) (hr : meth.sig.returnType = (some .int)) (hlk : meth.locks = false) (F : Nat) (x3 : Int32) (x5 : Int32) (x6 : Int32) (x7 : Int32) (M : zM)  (q : Int32 × zM) (h : NW_chain_J133 F x3 x5 x6 x7 M = some q) (H : Heap) (locs : List Loc) (ls : Array Slot) (hS : St G M s H locs) (hl : lv_has ls 12 [(3, .int x3), (5, .int x5), (6, .int x6), (7, .int x7)]) : W p l e (rmM 2 42) s m args below meth c H locs 0 0 (MQ below (PoI G q) args s 0 0 (gA G)) (F0 m 133 ls []) := by
  obtain ⟨hx, hb, -⟩ := id C
  unfold NW_chain_J133 at h
  refine lv_iload_n hx hb dX10_chain_133 rfl (lv_at hl 0 rfl) ?_
  refine lv_if_ne (tgt := 140) hx hb dX10_chain_134 (by decide) (fun c_41 => ?_) (fun c_41 => ?_)
  · replace h := ifn c_41 h
    refine lv_iload_n hx hb dX10_chain_140 rfl (lv_at hl 0 rfl) ?_
    refine lv_iconst (v := 1) hx hb dX10_chain_141 (by decide) ?_
    refine lv_icmp_ne (tgt := 150) hx hb dX10_chain_142 (by decide) (fun c_42 => ?_) (fun c_42 => ?_)
    · replace h := ifn c_42 h
      refine lv_iload hx hb dX10_chain_150 (lv_at hl 3 rfl) ?_
      exact r_iret C hS hr hlk h dX10_chain_152
    · replace h := ifp c_42 h
      refine lv_iload hx hb dX10_chain_145 (lv_at hl 2 rfl) ?_
      refine lv_goto (tgt := 152) hx hb dX10_chain_147 (by decide) ?_
      exact r_iret C hS hr hlk h dX10_chain_152
  · replace h := ifp c_41 h
    refine lv_iload hx hb dX10_chain_137 (lv_at hl 1 rfl) ?_
    exact r_iret C hS hr hlk h dX10_chain_139
set_option maxHeartbeats 4000000 in
set_option maxRecDepth 100000 in
theorem c_X10_chain (l : Launch) (G : Gl) (F : Nat) (x1 : Int32) (x2 : Int32) (x3 : Int32) (M : zM)  (q : Int32 × zM) (h : NW_chain F x1 x2 x3 M = some q) : Met l yX10_chain (wsM yX10_chain cX10_chain 12 (some .int)) (rmM 2 42) (Pre G M [.ref (G.1 + 0), .int x1, .int x2, .int x3]) (PoI G q) 0 0 (gA G) := by
  refine r_met (own := RX10) rfl (by decide) (Nat.le_of_ble_eq_true rfl) ?_
  intro p e s m below meth c ls C hr hlk hS hl
  have hl : lv_has ls 12 [(0, .ref (G.1 + 0)), (1, .int x1), (2, .int x2), (3, .int x3)] := hl
  obtain ⟨hx, hb, -⟩ := id C
  unfold NW_chain at h
  refine lv_iload_n hx hb dX10_chain_0 rfl (lv_at hl 1 rfl) ?_
  obtain ⟨⟨r_1, M_2⟩, hq_3, h⟩ := ob h
  try dsimp only at h
  refine r_thenI hS (r_runS C hS hl.1 cs_X10_100 (c_X10_isTongue l G F x1 M  _ hq_3) ⟨by decide, by decide⟩ rfl rfl (Nat.le_of_ble_eq_true rfl) ⟨Nat.zero_le _, Nat.zero_le _⟩ dX10_chain_1) (fun H locs hS => ?_)
  refine lv_if_eq (tgt := 14) hx hb dX10_chain_4 (by decide) (fun c_4 => ?_) (fun c_4 => ?_)
  · replace h := ifp c_4 h
    refine lv_sipush (v := (-1001)) hx hb dX10_chain_14 (by decide) ?_
    exact r_iret C hS hr hlk h dX10_chain_17
  · replace h := ifn c_4 h
    refine lv_iload_n hx hb dX10_chain_7 rfl (lv_at hl 2 rfl) ?_
    obtain ⟨⟨r_5, M_6⟩, hq_7, h⟩ := ob h
    try dsimp only at h
    refine r_thenI hS (r_runS C hS hl.1 cs_X10_139 (c_X10_isNumber l G F x2 M_2  _ hq_7) ⟨by decide, by decide⟩ rfl rfl (Nat.le_of_ble_eq_true rfl) ⟨Nat.zero_le _, Nat.zero_le _⟩ dX10_chain_8) (fun H locs hS => ?_)
    refine lv_if_ne (tgt := 18) hx hb dX10_chain_11 (by decide) (fun c_8 => ?_) (fun c_8 => ?_)
    · replace h := ifn c_8 h
      refine lv_iload_n hx hb dX10_chain_18 rfl (lv_at hl 3 rfl) ?_
      refine lv_if_lt (tgt := 27) hx hb dX10_chain_19 (by decide) (fun c_9 => ?_) (fun c_9 => ?_)
      · replace h := ifp c_9 h
        refine lv_sipush (v := (-1002)) hx hb dX10_chain_27 (by decide) ?_
        exact r_iret C hS hr hlk h dX10_chain_30
      · replace h := ifn c_9 h
        refine lv_iload_n hx hb dX10_chain_22 rfl (lv_at hl 3 rfl) ?_
        refine lv_iconst (v := 2) hx hb dX10_chain_23 (by decide) ?_
        refine lv_icmp_le (tgt := 31) hx hb dX10_chain_24 (by decide) (fun c_10 => ?_) (fun c_10 => ?_)
        · replace h := ifp c_10 h
          refine lv_aload_n hx hb dX10_chain_31 rfl (lv_at hl 0 rfl) ?_
          refine r_gR C hS fl_X10_34 rfl rfl rfl dX10_chain_32 ?_
          refine lv_iload_n hx hb dX10_chain_35 rfl (lv_at hl 1 rfl) ?_
          obtain ⟨b_11, h⟩ := ift h
          refine r_aald C hS rfl rfl b_11 (zR_13 b_11) dX10_chain_36 ?_
          refine lv_astore (lv' := [(4, .ref (G.1 + tgA x1)), (0, .ref (G.1 + 0)), (1, .int x1), (2, .int x2), (3, .int x3)]) hx hb dX10_chain_37 hl (by decide) rfl (fun ls hl => ?_)
          refine lv_iconst (v := 1) hx hb dX10_chain_39 (by decide) ?_
          refine lv_istore (lv' := [(5, .int 1), (4, .ref (G.1 + tgA x1)), (0, .ref (G.1 + 0)), (1, .int x1), (2, .int x2), (3, .int x3)]) hx hb dX10_chain_40 hl (by decide) rfl (fun ls hl => ?_)
          refine lv_iload_n hx hb dX10_chain_42 rfl (lv_at hl 4 rfl) ?_
          refine lv_istore (lv' := [(6, .int x2), (5, .int 1), (4, .ref (G.1 + tgA x1)), (0, .ref (G.1 + 0)), (1, .int x1), (2, .int x2), (3, .int x3)]) hx hb dX10_chain_43 hl (by decide) rfl (fun ls hl => ?_)
          refine lv_iconst (v := (-1)) hx hb dX10_chain_45 (by decide) ?_
          refine lv_istore (lv' := [(7, .int (-1)), (6, .int x2), (5, .int 1), (4, .ref (G.1 + tgA x1)), (0, .ref (G.1 + 0)), (1, .int x1), (2, .int x2), (3, .int x3)]) hx hb dX10_chain_46 hl (by decide) rfl (fun ls hl => ?_)
          refine lv_lconst (v := 0) hx hb dX10_chain_48 (by decide) ?_
          refine lv_lstore (lv' := [(8, .long 0), (7, .int (-1)), (6, .int x2), (5, .int 1), (4, .ref (G.1 + tgA x1)), (0, .ref (G.1 + 0)), (1, .int x1), (2, .int x2), (3, .int x3)]) hx hb dX10_chain_49 hl (by decide) rfl (fun ls hl => ?_)
          refine lv_iconst (v := 0) hx hb dX10_chain_51 (by decide) ?_
          refine lv_istore (lv' := [(10, .int 0), (8, .long 0), (7, .int (-1)), (6, .int x2), (5, .int 1), (4, .ref (G.1 + tgA x1)), (0, .ref (G.1 + 0)), (1, .int x1), (2, .int x2), (3, .int x3)]) hx hb dX10_chain_52 hl (by decide) rfl (fun ls hl => ?_)
          obtain ⟨⟨k_39, x5_33, x6_34, x7_35, x8_36, x10_37, M_38⟩, hq_40, h⟩ := ob h
          try dsimp only at h
          refine loopW (E := (E_NW_chain_54 G p l e s m _ below meth c _ x2 x3 (tgA x1))) (w_NW_chain_B54 C x2 x3 (tgA x1) (zK_13 b_11) F) F _ _ hq_40 ?_ _ _ _ hS (lv_sub hl [8, 9, 5, 4, 3, 2, 1, 0] rfl)
          by_cases ek_43 : k_39 = 1
          · replace h := ifp ek_43 h
            subst ek_43
            intro H locs ls hS hl
            exact w_NW_chain_J133 C hr hlk F x3 x5_33 x6_34 x7_35 M_38  q h _ _ _ hS (lv_sub hl [0, 1, 2, 3] rfl)
          · replace h := ifn ek_43 h
            cases h
        · replace h := ifn c_10 h
          refine lv_sipush (v := (-1002)) hx hb dX10_chain_27 (by decide) ?_
          exact r_iret C hS hr hlk h dX10_chain_30
    · replace h := ifp c_8 h
      refine lv_sipush (v := (-1001)) hx hb dX10_chain_14 (by decide) ?_
      exact r_iret C hS hr hlk h dX10_chain_17
set_option maxHeartbeats 4000000 in
set_option maxRecDepth 100000 in
theorem c_X10_honest (l : Launch) (G : Gl) (F : Nat) (x1 : Int32) (x2 : Int32) (M : zM)  (q : Int32 × zM) (h : NW_honest F x1 x2 M = some q) : Met l yX10_honest (wsM yX10_honest cX10_honest 3 (some .int)) (rmM 3 65) (Pre G M [.ref (G.1 + 0), .int x1, .int x2]) (PoI G q) 0 0 (gA G) := by
  refine r_met (own := RX10) rfl (by decide) (Nat.le_of_ble_eq_true rfl) ?_
  intro p e s m below meth c ls C hr hlk hS hl
  have hl : lv_has ls 3 [(0, .ref (G.1 + 0)), (1, .int x1), (2, .int x2)] := hl
  obtain ⟨hx, hb, -⟩ := id C
  unfold NW_honest at h
  refine lv_iload_n hx hb dX10_honest_0 rfl (lv_at hl 1 rfl) ?_
  obtain ⟨⟨r_1, M_2⟩, hq_3, h⟩ := ob h
  try dsimp only at h
  refine r_thenI hS (r_runS C hS hl.1 cs_X10_100 (c_X10_isTongue l G F x1 M  _ hq_3) ⟨by decide, by decide⟩ rfl rfl (Nat.le_of_ble_eq_true rfl) ⟨Nat.zero_le _, Nat.zero_le _⟩ dX10_honest_1) (fun H locs hS => ?_)
  refine lv_if_ne (tgt := 11) hx hb dX10_honest_4 (by decide) (fun c_4 => ?_) (fun c_4 => ?_)
  · replace h := ifn c_4 h
    refine lv_aload_n hx hb dX10_honest_11 rfl (lv_at hl 0 rfl) ?_
    refine r_gR C hS fl_X10_34 rfl rfl rfl dX10_honest_12 ?_
    refine lv_iload_n hx hb dX10_honest_15 rfl (lv_at hl 1 rfl) ?_
    obtain ⟨b_5, h⟩ := ift h
    refine r_aald C hS rfl rfl b_5 (zR_13 b_5) dX10_honest_16 ?_
    refine lv_iload_n hx hb dX10_honest_17 rfl (lv_at hl 2 rfl) ?_
    obtain ⟨⟨r_6, M_7⟩, hq_8, h⟩ := ob h
    try dsimp only at h
    refine r_thenI hS (r_runV C hS hl.1 cv_X10_219 (zK_13 b_5) (c_X9_honestAt l G F (tgA x1) x2 M_2 (zK_13 b_5) _ hq_8) ⟨by decide, by decide⟩ rfl rfl (Nat.le_of_ble_eq_true rfl) ⟨Nat.zero_le _, Nat.zero_le _⟩ dX10_honest_18) (fun H locs hS => ?_)
    exact r_iret C hS hr hlk h dX10_honest_21
  · replace h := ifp c_4 h
    refine lv_sipush (v := (-1001)) hx hb dX10_honest_7 (by decide) ?_
    exact r_iret C hS hr hlk h dX10_honest_10
set_option maxHeartbeats 4000000 in
set_option maxRecDepth 100000 in
theorem c_X10_far (l : Launch) (G : Gl) (F : Nat) (x1 : Int32) (x2 : Int32) (x3 : Int32) (M : zM)  (q : Int32 × zM) (h : NW_far F x1 x2 x3 M = some q) : Met l yX10_far (wsM yX10_far cX10_far 5 (some .int)) (rmM 3 87) (Pre G M [.ref (G.1 + 0), .int x1, .int x2, .int x3]) (PoI G q) 0 0 (gA G) := by
  refine r_met (own := RX10) rfl (by decide) (Nat.le_of_ble_eq_true rfl) ?_
  intro p e s m below meth c ls C hr hlk hS hl
  have hl : lv_has ls 5 [(0, .ref (G.1 + 0)), (1, .int x1), (2, .int x2), (3, .int x3)] := hl
  obtain ⟨hx, hb, -⟩ := id C
  unfold NW_far at h
  refine lv_iload_n hx hb dX10_far_0 rfl (lv_at hl 1 rfl) ?_
  obtain ⟨⟨r_1, M_2⟩, hq_3, h⟩ := ob h
  try dsimp only at h
  refine r_thenI hS (r_runS C hS hl.1 cs_X10_100 (c_X10_isTongue l G F x1 M  _ hq_3) ⟨by decide, by decide⟩ rfl rfl (Nat.le_of_ble_eq_true rfl) ⟨Nat.zero_le _, Nat.zero_le _⟩ dX10_far_1) (fun H locs hS => ?_)
  refine lv_if_eq (tgt := 21) hx hb dX10_far_4 (by decide) (fun c_4 => ?_) (fun c_4 => ?_)
  · replace h := ifp c_4 h
    refine lv_sipush (v := (-1001)) hx hb dX10_far_21 (by decide) ?_
    exact r_iret C hS hr hlk h dX10_far_24
  · replace h := ifn c_4 h
    refine lv_iload_n hx hb dX10_far_7 rfl (lv_at hl 2 rfl) ?_
    obtain ⟨⟨r_5, M_6⟩, hq_7, h⟩ := ob h
    try dsimp only at h
    refine r_thenI hS (r_runS C hS hl.1 cs_X10_139 (c_X10_isNumber l G F x2 M_2  _ hq_7) ⟨by decide, by decide⟩ rfl rfl (Nat.le_of_ble_eq_true rfl) ⟨Nat.zero_le _, Nat.zero_le _⟩ dX10_far_8) (fun H locs hS => ?_)
    refine lv_if_eq (tgt := 21) hx hb dX10_far_11 (by decide) (fun c_8 => ?_) (fun c_8 => ?_)
    · replace h := ifp c_8 h
      refine lv_sipush (v := (-1001)) hx hb dX10_far_21 (by decide) ?_
      exact r_iret C hS hr hlk h dX10_far_24
    · replace h := ifn c_8 h
      refine lv_iload_n hx hb dX10_far_14 rfl (lv_at hl 3 rfl) ?_
      obtain ⟨⟨r_9, M_10⟩, hq_11, h⟩ := ob h
      try dsimp only at h
      refine r_thenI hS (r_runS C hS hl.1 cs_X10_139 (c_X10_isNumber l G F x3 M_6  _ hq_11) ⟨by decide, by decide⟩ rfl rfl (Nat.le_of_ble_eq_true rfl) ⟨Nat.zero_le _, Nat.zero_le _⟩ dX10_far_15) (fun H locs hS => ?_)
      refine lv_if_ne (tgt := 25) hx hb dX10_far_18 (by decide) (fun c_12 => ?_) (fun c_12 => ?_)
      · replace h := ifn c_12 h
        refine lv_aload_n hx hb dX10_far_25 rfl (lv_at hl 0 rfl) ?_
        refine r_gR C hS fl_X10_34 rfl rfl rfl dX10_far_26 ?_
        refine lv_iload_n hx hb dX10_far_29 rfl (lv_at hl 1 rfl) ?_
        obtain ⟨b_13, h⟩ := ift h
        refine r_aald C hS rfl rfl b_13 (zR_13 b_13) dX10_far_30 ?_
        refine lv_astore (lv' := [(4, .ref (G.1 + tgA x1)), (0, .ref (G.1 + 0)), (1, .int x1), (2, .int x2), (3, .int x3)]) hx hb dX10_far_31 hl (by decide) rfl (fun ls hl => ?_)
        refine lv_aload hx hb dX10_far_33 (lv_at hl 0 rfl) ?_
        refine lv_iload_n hx hb dX10_far_35 rfl (lv_at hl 3 rfl) ?_
        obtain ⟨⟨r_14, M_15⟩, hq_16, h⟩ := ob h
        try dsimp only at h
        refine r_thenI hS (r_runV C hS hl.1 cv_X10_208 (zK_13 b_13) (c_X9_has l G F (tgA x1) x2 M_10 (zK_13 b_13) _ hq_16) ⟨by decide, by decide⟩ rfl rfl (Nat.le_of_ble_eq_true rfl) ⟨Nat.zero_le _, Nat.zero_le _⟩ dX10_far_36) (fun H locs hS => ?_)
        refine lv_if_eq (tgt := 51) hx hb dX10_far_39 (by decide) (fun c_17 => ?_) (fun c_17 => ?_)
        · replace h := ifp c_17 h
          refine lv_iconst (v := (-1)) hx hb dX10_far_51 (by decide) ?_
          exact r_iret C hS hr hlk h dX10_far_52
        · replace h := ifn c_17 h
          refine lv_aload hx hb dX10_far_42 (lv_at hl 0 rfl) ?_
          refine lv_iload_n hx hb dX10_far_44 rfl (lv_at hl 4 rfl) ?_
          obtain ⟨⟨r_18, M_19⟩, hq_20, h⟩ := ob h
          try dsimp only at h
          refine r_thenI hS (r_runV C hS hl.1 cv_X10_208 (zK_13 b_13) (c_X9_has l G F (tgA x1) x3 M_15 (zK_13 b_13) _ hq_20) ⟨by decide, by decide⟩ rfl rfl (Nat.le_of_ble_eq_true rfl) ⟨Nat.zero_le _, Nat.zero_le _⟩ dX10_far_45) (fun H locs hS => ?_)
          refine lv_if_ne (tgt := 53) hx hb dX10_far_48 (by decide) (fun c_21 => ?_) (fun c_21 => ?_)
          · replace h := ifn c_21 h
            refine lv_aload hx hb dX10_far_53 (lv_at hl 0 rfl) ?_
            refine lv_aload_n hx hb dX10_far_55 rfl (lv_at hl 1 rfl) ?_
            refine r_gR C hS fl_X10_77 rfl rfl rfl dX10_far_56 ?_
            refine lv_iload_n hx hb dX10_far_59 rfl (lv_at hl 3 rfl) ?_
            obtain ⟨⟨_r_22, M_23⟩, hq_24, h⟩ := ob h
            try dsimp only at h
            refine r_thenV hS (r_runV C hS hl.1 cv_X10_222 (zK_13 b_13) (c_X9_measureFrom l G F (tgA x1) x2 M_19 (zK_13 b_13) _ hq_24) ⟨by decide, by decide⟩ rfl rfl (Nat.le_of_ble_eq_true rfl) ⟨Nat.zero_le _, Nat.zero_le _⟩ dX10_far_60) (fun H locs hS => ?_)
            refine lv_aload hx hb dX10_far_63 (lv_at hl 0 rfl) ?_
            refine lv_aload_n hx hb dX10_far_65 rfl (lv_at hl 1 rfl) ?_
            refine r_gR C hS fl_X10_77 rfl rfl rfl dX10_far_66 ?_
            refine lv_iload_n hx hb dX10_far_69 rfl (lv_at hl 4 rfl) ?_
            obtain ⟨⟨r_25, M_26⟩, hq_27, h⟩ := ob h
            try dsimp only at h
            refine r_thenI hS (r_runV C hS hl.1 cv_X10_215 (zK_13 b_13) (c_X9_farFrom l G F (tgA x1) x3 M_23 (zK_13 b_13) _ hq_27) ⟨by decide, by decide⟩ rfl rfl (Nat.le_of_ble_eq_true rfl) ⟨Nat.zero_le _, Nat.zero_le _⟩ dX10_far_70) (fun H locs hS => ?_)
            exact r_iret C hS hr hlk h dX10_far_73
          · replace h := ifp c_21 h
            refine lv_iconst (v := (-1)) hx hb dX10_far_51 (by decide) ?_
            exact r_iret C hS hr hlk h dX10_far_52
      · replace h := ifp c_12 h
        refine lv_sipush (v := (-1001)) hx hb dX10_far_21 (by decide) ?_
        exact r_iret C hS hr hlk h dX10_far_24
def E_NW_mixedWith_27 (G : Gl) (p : Program) (l : Launch) (e : Env) (s : State) (m : MethodId) (args : Array Value) (below : List Frame) (meth : Method) (c : Code) (Q : State → Prop) (a1 : Nat) (x2 : Int32) (x4 : Int32) : Nat → (Int32 × Int32 × zM) → Prop := fun k (x5, x6, M) => match k with
  | 0 => ∀ (H : Heap) (locs : List Loc) (ls : Array Slot), St G M s H locs → lv_has ls 7 [(0, .ref (G.1 + 0)), (1, .ref (G.1 + a1)), (2, .int x2), (4, .int x4), (5, .int x5), (6, .int x6)] → W p l e (rmM 3 87) s m args below meth c H locs 0 0 Q (F0 m 27 ls [])
  | 1 => ∀ (H : Heap) (locs : List Loc) (ls : Array Slot), St G M s H locs → lv_has ls 7 [(5, .int x5)] → W p l e (rmM 3 87) s m args below meth c H locs 0 0 Q (F0 m 66 ls [])
  | _ => True
set_option maxHeartbeats 4000000 in
set_option maxRecDepth 100000 in
theorem w_NW_mixedWith_B27 {G : Gl} {p : Program} {l : Launch} {e : Env} {s : State} {m : MethodId} {args : Array Value} {below : List Frame} {meth : Method} {c : Code} {Q : State → Prop} (C : Cx G cX10_mixedWith 7 RX10 p s m args c) (a1 : Nat) (x2 : Int32) (x4 : Int32) (k1 : zK a1 = 9) (F : Nat) : ∀ (σ : (Int32 × Int32 × zM)) (q : Nat × (Int32 × Int32 × zM)), NW_mixedWith_B27 F a1 x2 x4 σ = some q → (E_NW_mixedWith_27 G p l e s m args below meth c Q a1 x2 x4) q.1 q.2 → (E_NW_mixedWith_27 G p l e s m args below meth c Q a1 x2 x4) 0 σ := by
  intro (x5, x6, M) q h hE H locs ls hS hl
  obtain ⟨hx, hb, -⟩ := id C
  unfold NW_mixedWith_B27 at h
  try dsimp only at h
  refine lv_iload hx hb dX10_mixedWith_27 (lv_at hl 5 rfl) ?_
  refine lv_iload hx hb dX10_mixedWith_29 (lv_at hl 3 rfl) ?_
  refine lv_icmp_gt (tgt := 66) hx hb dX10_mixedWith_31 (by decide) (fun c_10 => ?_) (fun c_10 => ?_)
  · replace h := ifp c_10 h
    obtain rfl := Option.some.inj h
    exact hE _ _ _ hS (lv_sub hl [4] rfl)
  · replace h := ifn c_10 h
    refine lv_aload_n hx hb dX10_mixedWith_34 rfl (lv_at hl 1 rfl) ?_
    refine lv_iload hx hb dX10_mixedWith_35 (lv_at hl 5 rfl) ?_
    obtain ⟨⟨r_11, M_12⟩, hq_13, h⟩ := ob h
    try dsimp only at h
    refine r_thenI hS (r_runV C hS hl.1 cv_X10_208 k1 (c_X9_has l G F a1 x6 M k1 _ hq_13) ⟨by decide, by decide⟩ rfl rfl (Nat.le_of_ble_eq_true rfl) ⟨Nat.zero_le _, Nat.zero_le _⟩ dX10_mixedWith_37) (fun H locs hS => ?_)
    refine lv_if_eq (tgt := 60) hx hb dX10_mixedWith_40 (by decide) (fun c_14 => ?_) (fun c_14 => ?_)
    · replace h := ifp c_14 h
      obtain ⟨x6_15, e_16, h⟩ := olt h
      refine lv_iinc (v := x6_15) (lv' := [(6, .int x6_15), (0, .ref (G.1 + 0)), (1, .ref (G.1 + a1)), (2, .int x2), (4, .int x4), (5, .int x5)]) hx hb dX10_mixedWith_60 hl (k := 5) rfl (by rw [e_16]; rfl) (by decide) rfl (fun ls hl => ?_)
      refine lv_goto (tgt := 27) hx hb dX10_mixedWith_63 (by decide) ?_
      obtain rfl := Option.some.inj h
      exact hE _ _ _ hS (lv_sub hl [1, 2, 3, 4, 5, 0] rfl)
    · replace h := ifn c_14 h
      refine lv_aload_n hx hb dX10_mixedWith_43 rfl (lv_at hl 1 rfl) ?_
      refine lv_aload_n hx hb dX10_mixedWith_44 rfl (lv_at hl 0 rfl) ?_
      refine r_gR C hS fl_X10_77 rfl rfl rfl dX10_mixedWith_45 ?_
      refine lv_iload hx hb dX10_mixedWith_48 (lv_at hl 5 rfl) ?_
      obtain ⟨⟨r_17, M_18⟩, hq_19, h⟩ := ob h
      try dsimp only at h
      refine r_thenI hS (r_runV C hS hl.1 cv_X10_215 k1 (c_X9_farFrom l G F a1 x6 M_12 k1 _ hq_19) ⟨by decide, by decide⟩ rfl rfl (Nat.le_of_ble_eq_true rfl) ⟨Nat.zero_le _, Nat.zero_le _⟩ dX10_mixedWith_50) (fun H locs hS => ?_)
      refine lv_iload_n hx hb dX10_mixedWith_53 rfl (lv_at hl 2 rfl) ?_
      refine lv_icmp_gt (tgt := 60) hx hb dX10_mixedWith_54 (by decide) (fun c_20 => ?_) (fun c_20 => ?_)
      · replace h := ifp c_20 h
        obtain ⟨x6_21, e_22, h⟩ := olt h
        refine lv_iinc (v := x6_21) (lv' := [(6, .int x6_21), (0, .ref (G.1 + 0)), (1, .ref (G.1 + a1)), (2, .int x2), (4, .int x4), (5, .int x5)]) hx hb dX10_mixedWith_60 hl (k := 5) rfl (by rw [e_22]; rfl) (by decide) rfl (fun ls hl => ?_)
        refine lv_goto (tgt := 27) hx hb dX10_mixedWith_63 (by decide) ?_
        obtain rfl := Option.some.inj h
        exact hE _ _ _ hS (lv_sub hl [1, 2, 3, 4, 5, 0] rfl)
      · replace h := ifn c_20 h
        obtain ⟨x5_23, e_24, h⟩ := olt h
        refine lv_iinc (v := x5_23) (lv' := [(5, .int x5_23), (0, .ref (G.1 + 0)), (1, .ref (G.1 + a1)), (2, .int x2), (4, .int x4), (6, .int x6)]) hx hb dX10_mixedWith_57 hl (k := 4) rfl (by rw [e_24]; rfl) (by decide) rfl (fun ls hl => ?_)
        obtain ⟨x6_25, e_26, h⟩ := olt h
        refine lv_iinc (v := x6_25) (lv' := [(6, .int x6_25), (5, .int x5_23), (0, .ref (G.1 + 0)), (1, .ref (G.1 + a1)), (2, .int x2), (4, .int x4)]) hx hb dX10_mixedWith_60 hl (k := 5) rfl (by rw [e_26]; rfl) (by decide) rfl (fun ls hl => ?_)
        refine lv_goto (tgt := 27) hx hb dX10_mixedWith_63 (by decide) ?_
        obtain rfl := Option.some.inj h
        exact hE _ _ _ hS (lv_sub hl [2, 3, 4, 5, 1, 0] rfl)
set_option maxHeartbeats 4000000 in
set_option maxRecDepth 100000 in
theorem c_X10_mixedWith (l : Launch) (G : Gl) (F : Nat) (a1 : Nat) (x2 : Int32) (x3 : Int32) (x4 : Int32) (M : zM) (k1 : zK a1 = 9) (q : Int32 × zM) (h : NW_mixedWith F a1 x2 x3 x4 M = some q) : Met l yX10_mixedWith (wsM yX10_mixedWith cX10_mixedWith 7 (some .int)) (rmM 3 87) (Pre G M [.ref (G.1 + 0), .ref (G.1 + a1), .int x2, .int x3, .int x4]) (PoI G q) 0 0 (gA G) := by
  refine r_met (own := RX10) rfl (by decide) (Nat.le_of_ble_eq_true rfl) ?_
  intro p e s m below meth c ls C hr hlk hS hl
  have hl : lv_has ls 7 [(0, .ref (G.1 + 0)), (1, .ref (G.1 + a1)), (2, .int x2), (3, .int x3), (4, .int x4)] := hl
  obtain ⟨hx, hb, -⟩ := id C
  unfold NW_mixedWith at h
  refine lv_aload_n hx hb dX10_mixedWith_0 rfl (lv_at hl 1 rfl) ?_
  refine lv_iload_n hx hb dX10_mixedWith_1 rfl (lv_at hl 3 rfl) ?_
  obtain ⟨⟨r_1, M_2⟩, hq_3, h⟩ := ob h
  try dsimp only at h
  refine r_thenI hS (r_runV C hS hl.1 cv_X10_208 k1 (c_X9_has l G F a1 x3 M k1 _ hq_3) ⟨by decide, by decide⟩ rfl rfl (Nat.le_of_ble_eq_true rfl) ⟨Nat.zero_le _, Nat.zero_le _⟩ dX10_mixedWith_2) (fun H locs hS => ?_)
  refine lv_if_ne (tgt := 10) hx hb dX10_mixedWith_5 (by decide) (fun c_4 => ?_) (fun c_4 => ?_)
  · replace h := ifn c_4 h
    refine lv_aload_n hx hb dX10_mixedWith_10 rfl (lv_at hl 1 rfl) ?_
    refine lv_aload_n hx hb dX10_mixedWith_11 rfl (lv_at hl 0 rfl) ?_
    refine r_gR C hS fl_X10_77 rfl rfl rfl dX10_mixedWith_12 ?_
    refine lv_iload_n hx hb dX10_mixedWith_15 rfl (lv_at hl 3 rfl) ?_
    obtain ⟨⟨_r_5, M_6⟩, hq_7, h⟩ := ob h
    try dsimp only at h
    refine r_thenV hS (r_runV C hS hl.1 cv_X10_222 k1 (c_X9_measureFrom l G F a1 x3 M_2 k1 _ hq_7) ⟨by decide, by decide⟩ rfl rfl (Nat.le_of_ble_eq_true rfl) ⟨Nat.zero_le _, Nat.zero_le _⟩ dX10_mixedWith_16) (fun H locs hS => ?_)
    refine lv_iconst (v := 0) hx hb dX10_mixedWith_19 (by decide) ?_
    refine lv_istore (lv' := [(5, .int 0), (0, .ref (G.1 + 0)), (1, .ref (G.1 + a1)), (2, .int x2), (3, .int x3), (4, .int x4)]) hx hb dX10_mixedWith_20 hl (by decide) rfl (fun ls hl => ?_)
    refine lv_iload_n hx hb dX10_mixedWith_22 rfl (lv_at hl 4 rfl) ?_
    refine lv_iconst (v := 1) hx hb dX10_mixedWith_23 (by decide) ?_
    refine lv_iadd hx hb dX10_mixedWith_24 ?_
    obtain ⟨x6_8, e_9, h⟩ := olt h
    refine r_nI e_9 ?_
    refine lv_istore (lv' := [(6, .int x6_8), (5, .int 0), (0, .ref (G.1 + 0)), (1, .ref (G.1 + a1)), (2, .int x2), (3, .int x3), (4, .int x4)]) hx hb dX10_mixedWith_25 hl (by decide) rfl (fun ls hl => ?_)
    obtain ⟨⟨k_30, x5_27, x6_28, M_29⟩, hq_31, h⟩ := ob h
    try dsimp only at h
    refine loopW (E := (E_NW_mixedWith_27 G p l e s m _ below meth c _ a1 x2 x4)) (w_NW_mixedWith_B27 C a1 x2 x4 k1 F) F _ _ hq_31 ?_ _ _ _ hS (lv_sub hl [2, 3, 4, 6, 1, 0] rfl)
    by_cases ek_32 : k_30 = 1
    · replace h := ifp ek_32 h
      subst ek_32
      intro H locs ls hS hl
      refine lv_iload hx hb dX10_mixedWith_66 (lv_at hl 0 rfl) ?_
      exact r_iret C hS hr hlk h dX10_mixedWith_68
    · replace h := ifn ek_32 h
      cases h
  · replace h := ifp c_4 h
    refine lv_iconst (v := 0) hx hb dX10_mixedWith_8 (by decide) ?_
    exact r_iret C hS hr hlk h dX10_mixedWith_9
def E_NW_mixed_61 (G : Gl) (p : Program) (l : Launch) (e : Env) (s : State) (m : MethodId) (args : Array Value) (below : List Frame) (meth : Method) (c : Code) (Q : State → Prop) (x1 : Int32) (x2 : Int32) (x4 : Int32) : Nat → (Int32 × Int32 × zM) → Prop := fun k (x5, x6, M) => match k with
  | 0 => ∀ (H : Heap) (locs : List Loc) (ls : Array Slot), St G M s H locs → lv_has ls 7 [(0, .ref (G.1 + 0)), (1, .int x1), (2, .int x2), (4, .int x4), (5, .int x5), (6, .int x6)] → W p l e (rmM 4 113) s m args below meth c H locs 0 0 Q (F0 m 61 ls [])
  | 1 => ∀ (H : Heap) (locs : List Loc) (ls : Array Slot), St G M s H locs → lv_has ls 7 [(5, .int x5)] → W p l e (rmM 4 113) s m args below meth c H locs 0 0 Q (F0 m 94 ls [])
  | _ => True
set_option maxHeartbeats 4000000 in
set_option maxRecDepth 100000 in
theorem w_NW_mixed_B61 {G : Gl} {p : Program} {l : Launch} {e : Env} {s : State} {m : MethodId} {args : Array Value} {below : List Frame} {meth : Method} {c : Code} {Q : State → Prop} (C : Cx G cX10_mixed 7 RX10 p s m args c) (x1 : Int32) (x2 : Int32) (x4 : Int32) (F : Nat) : ∀ (σ : (Int32 × Int32 × zM)) (q : Nat × (Int32 × Int32 × zM)), NW_mixed_B61 F x1 x2 x4 σ = some q → (E_NW_mixed_61 G p l e s m args below meth c Q x1 x2 x4) q.1 q.2 → (E_NW_mixed_61 G p l e s m args below meth c Q x1 x2 x4) 0 σ := by
  intro (x5, x6, M) q h hE H locs ls hS hl
  obtain ⟨hx, hb, -⟩ := id C
  unfold NW_mixed_B61 at h
  try dsimp only at h
  refine lv_iload hx hb dX10_mixed_61 (lv_at hl 5 rfl) ?_
  refine lv_iload hx hb dX10_mixed_63 (lv_at hl 3 rfl) ?_
  refine lv_icmp_ge (tgt := 94) hx hb dX10_mixed_65 (by decide) (fun c_17 => ?_) (fun c_17 => ?_)
  · replace h := ifp c_17 h
    obtain rfl := Option.some.inj h
    exact hE _ _ _ hS (lv_sub hl [4] rfl)
  · replace h := ifn c_17 h
    refine lv_iload hx hb dX10_mixed_68 (lv_at hl 4 rfl) ?_
    refine lv_aload_n hx hb dX10_mixed_70 rfl (lv_at hl 0 rfl) ?_
    refine lv_aload_n hx hb dX10_mixed_71 rfl (lv_at hl 0 rfl) ?_
    refine r_gR C hS fl_X10_34 rfl rfl rfl dX10_mixed_72 ?_
    refine lv_iload_n hx hb dX10_mixed_75 rfl (lv_at hl 1 rfl) ?_
    obtain ⟨b_18, h⟩ := ift h
    refine r_aald C hS rfl rfl b_18 (zR_13 b_18) dX10_mixed_76 ?_
    refine lv_iload_n hx hb dX10_mixed_77 rfl (lv_at hl 2 rfl) ?_
    refine lv_iload hx hb dX10_mixed_78 (lv_at hl 5 rfl) ?_
    refine lv_iload hx hb dX10_mixed_80 (lv_at hl 3 rfl) ?_
    obtain ⟨⟨r_19, M_20⟩, hq_21, h⟩ := ob h
    try dsimp only at h
    refine r_thenI hS (r_runV C hS hl.1 cv_X10_226 rfl (c_X10_mixedWith l G F (tgA x1) x2 x6 x4 M (zK_13 b_18) _ hq_21) ⟨by decide, by decide⟩ rfl rfl (Nat.le_of_ble_eq_true rfl) ⟨Nat.zero_le _, Nat.zero_le _⟩ dX10_mixed_82) (fun H locs hS => ?_)
    refine lv_iadd hx hb dX10_mixed_85 ?_
    obtain ⟨x5_22, e_23, h⟩ := olt h
    refine r_nI e_23 ?_
    refine lv_istore (lv' := [(5, .int x5_22), (0, .ref (G.1 + 0)), (1, .int x1), (2, .int x2), (4, .int x4), (6, .int x6)]) hx hb dX10_mixed_86 hl (by decide) rfl (fun ls hl => ?_)
    obtain ⟨x6_24, e_25, h⟩ := olt h
    refine lv_iinc (v := x6_24) (lv' := [(6, .int x6_24), (5, .int x5_22), (0, .ref (G.1 + 0)), (1, .int x1), (2, .int x2), (4, .int x4)]) hx hb dX10_mixed_88 hl (k := 5) rfl (by rw [e_25]; rfl) (by decide) rfl (fun ls hl => ?_)
    refine lv_goto (tgt := 61) hx hb dX10_mixed_91 (by decide) ?_
    obtain rfl := Option.some.inj h
    exact hE _ _ _ hS (lv_sub hl [2, 3, 4, 5, 1, 0] rfl)
set_option maxHeartbeats 4000000 in
set_option maxRecDepth 100000 in
theorem c_X10_mixed (l : Launch) (G : Gl) (F : Nat) (x1 : Int32) (x2 : Int32) (x3 : Int32) (x4 : Int32) (M : zM)  (q : Int32 × zM) (h : NW_mixed F x1 x2 x3 x4 M = some q) : Met l yX10_mixed (wsM yX10_mixed cX10_mixed 7 (some .int)) (rmM 4 113) (Pre G M [.ref (G.1 + 0), .int x1, .int x2, .int x3, .int x4]) (PoI G q) 0 0 (gA G) := by
  refine r_met (own := RX10) rfl (by decide) (Nat.le_of_ble_eq_true rfl) ?_
  intro p e s m below meth c ls C hr hlk hS hl
  have hl : lv_has ls 7 [(0, .ref (G.1 + 0)), (1, .int x1), (2, .int x2), (3, .int x3), (4, .int x4)] := hl
  obtain ⟨hx, hb, -⟩ := id C
  unfold NW_mixed at h
  refine lv_iload_n hx hb dX10_mixed_0 rfl (lv_at hl 1 rfl) ?_
  obtain ⟨⟨r_1, M_2⟩, hq_3, h⟩ := ob h
  try dsimp only at h
  refine r_thenI hS (r_runS C hS hl.1 cs_X10_100 (c_X10_isTongue l G F x1 M  _ hq_3) ⟨by decide, by decide⟩ rfl rfl (Nat.le_of_ble_eq_true rfl) ⟨Nat.zero_le _, Nat.zero_le _⟩ dX10_mixed_1) (fun H locs hS => ?_)
  refine lv_if_eq (tgt := 22) hx hb dX10_mixed_4 (by decide) (fun c_4 => ?_) (fun c_4 => ?_)
  · replace h := ifp c_4 h
    refine lv_sipush (v := (-1001)) hx hb dX10_mixed_22 (by decide) ?_
    exact r_iret C hS hr hlk h dX10_mixed_25
  · replace h := ifn c_4 h
    refine lv_iload_n hx hb dX10_mixed_7 rfl (lv_at hl 3 rfl) ?_
    obtain ⟨⟨r_5, M_6⟩, hq_7, h⟩ := ob h
    try dsimp only at h
    refine r_thenI hS (r_runS C hS hl.1 cs_X10_139 (c_X10_isNumber l G F x3 M_2  _ hq_7) ⟨by decide, by decide⟩ rfl rfl (Nat.le_of_ble_eq_true rfl) ⟨Nat.zero_le _, Nat.zero_le _⟩ dX10_mixed_8) (fun H locs hS => ?_)
    refine lv_if_eq (tgt := 22) hx hb dX10_mixed_11 (by decide) (fun c_8 => ?_) (fun c_8 => ?_)
    · replace h := ifp c_8 h
      refine lv_sipush (v := (-1001)) hx hb dX10_mixed_22 (by decide) ?_
      exact r_iret C hS hr hlk h dX10_mixed_25
    · replace h := ifn c_8 h
      refine lv_iload hx hb dX10_mixed_14 (lv_at hl 4 rfl) ?_
      obtain ⟨⟨r_9, M_10⟩, hq_11, h⟩ := ob h
      try dsimp only at h
      refine r_thenI hS (r_runS C hS hl.1 cs_X10_139 (c_X10_isNumber l G F x4 M_6  _ hq_11) ⟨by decide, by decide⟩ rfl rfl (Nat.le_of_ble_eq_true rfl) ⟨Nat.zero_le _, Nat.zero_le _⟩ dX10_mixed_16) (fun H locs hS => ?_)
      refine lv_if_ne (tgt := 26) hx hb dX10_mixed_19 (by decide) (fun c_12 => ?_) (fun c_12 => ?_)
      · replace h := ifn c_12 h
        refine lv_iload_n hx hb dX10_mixed_26 rfl (lv_at hl 2 rfl) ?_
        refine lv_if_lt (tgt := 51) hx hb dX10_mixed_27 (by decide) (fun c_13 => ?_) (fun c_13 => ?_)
        · replace h := ifp c_13 h
          refine lv_sipush (v := (-1002)) hx hb dX10_mixed_51 (by decide) ?_
          exact r_iret C hS hr hlk h dX10_mixed_54
        · replace h := ifn c_13 h
          refine lv_iload_n hx hb dX10_mixed_30 rfl (lv_at hl 2 rfl) ?_
          refine lv_bipush (v := 9) hx hb dX10_mixed_31 (by decide) ?_
          refine lv_icmp_gt (tgt := 51) hx hb dX10_mixed_33 (by decide) (fun c_14 => ?_) (fun c_14 => ?_)
          · replace h := ifp c_14 h
            refine lv_sipush (v := (-1002)) hx hb dX10_mixed_51 (by decide) ?_
            exact r_iret C hS hr hlk h dX10_mixed_54
          · replace h := ifn c_14 h
            refine lv_iload hx hb dX10_mixed_36 (lv_at hl 4 rfl) ?_
            refine lv_iload_n hx hb dX10_mixed_38 rfl (lv_at hl 3 rfl) ?_
            refine lv_icmp_lt (tgt := 51) hx hb dX10_mixed_39 (by decide) (fun c_15 => ?_) (fun c_15 => ?_)
            · replace h := ifp c_15 h
              refine lv_sipush (v := (-1002)) hx hb dX10_mixed_51 (by decide) ?_
              exact r_iret C hS hr hlk h dX10_mixed_54
            · replace h := ifn c_15 h
              refine lv_iload hx hb dX10_mixed_42 (lv_at hl 4 rfl) ?_
              refine lv_iload_n hx hb dX10_mixed_44 rfl (lv_at hl 3 rfl) ?_
              refine lv_isub hx hb dX10_mixed_45 ?_
              refine lv_bipush (v := 60) hx hb dX10_mixed_46 (by decide) ?_
              refine lv_icmp_le (tgt := 55) hx hb dX10_mixed_48 (by decide) (fun c_16 => ?_) (fun c_16 => ?_)
              · replace h := ifp c_16 h
                refine lv_iconst (v := 0) hx hb dX10_mixed_55 (by decide) ?_
                refine lv_istore (lv' := [(5, .int 0), (0, .ref (G.1 + 0)), (1, .int x1), (2, .int x2), (3, .int x3), (4, .int x4)]) hx hb dX10_mixed_56 hl (by decide) rfl (fun ls hl => ?_)
                refine lv_iload_n hx hb dX10_mixed_58 rfl (lv_at hl 4 rfl) ?_
                refine lv_istore (lv' := [(6, .int x3), (5, .int 0), (0, .ref (G.1 + 0)), (1, .int x1), (2, .int x2), (3, .int x3), (4, .int x4)]) hx hb dX10_mixed_59 hl (by decide) rfl (fun ls hl => ?_)
                obtain ⟨⟨k_29, x5_26, x6_27, M_28⟩, hq_30, h⟩ := ob h
                try dsimp only at h
                refine loopW (E := (E_NW_mixed_61 G p l e s m _ below meth c _ x1 x2 x4)) (w_NW_mixed_B61 C x1 x2 x4 F) F _ _ hq_30 ?_ _ _ _ hS (lv_sub hl [2, 3, 4, 6, 1, 0] rfl)
                by_cases ek_31 : k_29 = 1
                · replace h := ifp ek_31 h
                  subst ek_31
                  intro H locs ls hS hl
                  refine lv_iload hx hb dX10_mixed_94 (lv_at hl 0 rfl) ?_
                  exact r_iret C hS hr hlk h dX10_mixed_96
                · replace h := ifn ek_31 h
                  cases h
              · replace h := ifn c_16 h
                refine lv_sipush (v := (-1002)) hx hb dX10_mixed_51 (by decide) ?_
                exact r_iret C hS hr hlk h dX10_mixed_54
      · replace h := ifp c_12 h
        refine lv_sipush (v := (-1001)) hx hb dX10_mixed_22 (by decide) ?_
        exact r_iret C hS hr hlk h dX10_mixed_25
set_option maxHeartbeats 4000000 in
set_option maxRecDepth 100000 in
theorem c_X10_square (l : Launch) (G : Gl) (F : Nat) (x1 : Int32) (x2 : Int32) (x3 : Int32) (x4 : Int32) (M : zM)  (q : Int32 × zM) (h : NW_square F x1 x2 x3 x4 M = some q) : Met l yX10_square (wsM yX10_square cX10_square 5 (some .int)) (rmM 4 89) (Pre G M [.ref (G.1 + 0), .int x1, .int x2, .int x3, .int x4]) (PoI G q) 0 0 (gA G) := by
  refine r_met (own := RX10) rfl (by decide) (Nat.le_of_ble_eq_true rfl) ?_
  intro p e s m below meth c ls C hr hlk hS hl
  have hl : lv_has ls 5 [(0, .ref (G.1 + 0)), (1, .int x1), (2, .int x2), (3, .int x3), (4, .int x4)] := hl
  obtain ⟨hx, hb, -⟩ := id C
  unfold NW_square at h
  refine lv_iload_n hx hb dX10_square_0 rfl (lv_at hl 1 rfl) ?_
  obtain ⟨⟨r_1, M_2⟩, hq_3, h⟩ := ob h
  try dsimp only at h
  refine r_thenI hS (r_runS C hS hl.1 cs_X10_100 (c_X10_isTongue l G F x1 M  _ hq_3) ⟨by decide, by decide⟩ rfl rfl (Nat.le_of_ble_eq_true rfl) ⟨Nat.zero_le _, Nat.zero_le _⟩ dX10_square_1) (fun H locs hS => ?_)
  refine lv_if_ne (tgt := 11) hx hb dX10_square_4 (by decide) (fun c_4 => ?_) (fun c_4 => ?_)
  · replace h := ifn c_4 h
    refine lv_iload_n hx hb dX10_square_11 rfl (lv_at hl 2 rfl) ?_
    obtain ⟨⟨r_5, M_6⟩, hq_7, h⟩ := ob h
    try dsimp only at h
    refine r_thenI hS (r_runS C hS hl.1 cs_X10_139 (c_X10_isNumber l G F x2 M_2  _ hq_7) ⟨by decide, by decide⟩ rfl rfl (Nat.le_of_ble_eq_true rfl) ⟨Nat.zero_le _, Nat.zero_le _⟩ dX10_square_12) (fun H locs hS => ?_)
    refine lv_if_eq (tgt := 43) hx hb dX10_square_15 (by decide) (fun c_8 => ?_) (fun c_8 => ?_)
    · replace h := ifp c_8 h
      refine lv_sipush (v := (-1002)) hx hb dX10_square_43 (by decide) ?_
      exact r_iret C hS hr hlk h dX10_square_46
    · replace h := ifn c_8 h
      refine lv_iload_n hx hb dX10_square_18 rfl (lv_at hl 3 rfl) ?_
      refine lv_i2l (v := x3.toInt64) hx hb dX10_square_19 rfl ?_
      refine r_jabL C hl.1 tw_857 (by decide) (Nat.le_of_ble_eq_true rfl) ⟨Nat.zero_le _, Nat.zero_le _⟩ dX10_square_20 ?_
      refine lv_ldc2 hx hb C.2.2.2.1 (C.2.2.2.2.1 _ tw_860) dX10_square_23 ?_
      refine W.lcmp hx hb dX10_square_26 ?_
      refine lv_if_ge (tgt := 43) hx hb dX10_square_27 (by decide) (fun c_9 => ?_) (fun c_9 => ?_)
      · replace h := ifp c_9 h
        refine lv_sipush (v := (-1002)) hx hb dX10_square_43 (by decide) ?_
        exact r_iret C hS hr hlk h dX10_square_46
      · replace h := ifn c_9 h
        refine lv_iload hx hb dX10_square_30 (lv_at hl 4 rfl) ?_
        refine lv_i2l (v := x4.toInt64) hx hb dX10_square_32 rfl ?_
        refine r_jabL C hl.1 tw_857 (by decide) (Nat.le_of_ble_eq_true rfl) ⟨Nat.zero_le _, Nat.zero_le _⟩ dX10_square_33 ?_
        refine lv_ldc2 hx hb C.2.2.2.1 (C.2.2.2.2.1 _ tw_860) dX10_square_36 ?_
        refine W.lcmp hx hb dX10_square_39 ?_
        refine lv_if_lt (tgt := 47) hx hb dX10_square_40 (by decide) (fun c_10 => ?_) (fun c_10 => ?_)
        · replace h := ifp c_10 h
          refine lv_aload_n hx hb dX10_square_47 rfl (lv_at hl 0 rfl) ?_
          refine r_gR C hS fl_X10_84 rfl rfl rfl dX10_square_48 ?_
          refine lv_iload_n hx hb dX10_square_51 rfl (lv_at hl 2 rfl) ?_
          refine lv_iload_n hx hb dX10_square_52 rfl (lv_at hl 3 rfl) ?_
          refine lv_iload hx hb dX10_square_53 (lv_at hl 4 rfl) ?_
          obtain ⟨⟨r_11, M_12⟩, hq_13, h⟩ := ob h
          try dsimp only at h
          refine r_thenI hS (r_runV C hS hl.1 cv_X10_235 rfl (c_X7_lay l G F x2 x3 x4 M_6  _ hq_13) ⟨by decide, by decide⟩ rfl rfl (Nat.le_of_ble_eq_true rfl) ⟨Nat.zero_le _, Nat.zero_le _⟩ dX10_square_55) (fun H locs hS => ?_)
          refine lv_if_ne (tgt := 63) hx hb dX10_square_58 (by decide) (fun c_14 => ?_) (fun c_14 => ?_)
          · replace h := ifn c_14 h
            refine lv_aload_n hx hb dX10_square_63 rfl (lv_at hl 0 rfl) ?_
            refine r_gR C hS fl_X10_84 rfl rfl rfl dX10_square_64 ?_
            refine lv_aload_n hx hb dX10_square_67 rfl (lv_at hl 0 rfl) ?_
            refine r_gR C hS fl_X10_34 rfl rfl rfl dX10_square_68 ?_
            refine lv_iload_n hx hb dX10_square_71 rfl (lv_at hl 1 rfl) ?_
            obtain ⟨b_15, h⟩ := ift h
            refine r_aald C hS rfl rfl b_15 (zR_13 b_15) dX10_square_72 ?_
            obtain ⟨⟨r_16, M_17⟩, hq_18, h⟩ := ob h
            try dsimp only at h
            refine r_thenI hS (r_runV C hS hl.1 cv_X10_239 rfl (c_X7_holdsIn l G F (tgA x1) M_12 (zK_13 b_15) _ hq_18) ⟨by decide, by decide⟩ rfl rfl (Nat.le_of_ble_eq_true rfl) ⟨Nat.zero_le _, Nat.zero_le _⟩ dX10_square_73) (fun H locs hS => ?_)
            refine lv_if_eq (tgt := 83) hx hb dX10_square_76 (by decide) (fun c_19 => ?_) (fun c_19 => ?_)
            · replace h := ifp c_19 h
              refine lv_iconst (v := 0) hx hb dX10_square_83 (by decide) ?_
              exact r_iret C hS hr hlk h dX10_square_84
            · replace h := ifn c_19 h
              refine lv_iconst (v := 1) hx hb dX10_square_79 (by decide) ?_
              refine lv_goto (tgt := 84) hx hb dX10_square_80 (by decide) ?_
              exact r_iret C hS hr hlk h dX10_square_84
          · replace h := ifp c_14 h
            refine lv_iconst (v := (-1)) hx hb dX10_square_61 (by decide) ?_
            exact r_iret C hS hr hlk h dX10_square_62
        · replace h := ifn c_10 h
          refine lv_sipush (v := (-1002)) hx hb dX10_square_43 (by decide) ?_
          exact r_iret C hS hr hlk h dX10_square_46
  · replace h := ifp c_4 h
    refine lv_sipush (v := (-1001)) hx hb dX10_square_7 (by decide) ?_
    exact r_iret C hS hr hlk h dX10_square_10
def E_NW_squares_20 (G : Gl) (p : Program) (l : Launch) (e : Env) (s : State) (m : MethodId) (args : Array Value) (below : List Frame) (meth : Method) (c : Code) (Q : State → Prop) (x1 : Int32) (x2 : Int32) : Nat → (Int32 × Int32 × zM) → Prop := fun k (x3, x4, M) => match k with
  | 0 => ∀ (H : Heap) (locs : List Loc) (ls : Array Slot), St G M s H locs → lv_has ls 5 [(0, .ref (G.1 + 0)), (1, .int x1), (2, .int x2), (3, .int x3)] → W p l e (rmM 4 89) s m args below meth c H locs 0 0 Q (F0 m 20 ls [])
  | 1 => ∀ (H : Heap) (locs : List Loc) (ls : Array Slot), St G M s H locs → lv_has ls 5 [(3, .int x3), (4, .int x4)] → W p l e (rmM 4 89) s m args below meth c H locs 0 0 Q (F0 m 76 ls [])
  | 2 => ∀ (H : Heap) (locs : List Loc) (ls : Array Slot), St G M s H locs → lv_has ls 5 [] → W p l e (rmM 4 89) s m args below meth c H locs 0 0 Q (F0 m 96 ls [])
  | _ => True
def E_NW_squares_29 (G : Gl) (p : Program) (l : Launch) (e : Env) (s : State) (m : MethodId) (args : Array Value) (below : List Frame) (meth : Method) (c : Code) (Q : State → Prop) (x1 : Int32) (x2 : Int32) (x3 : Int32) : Nat → (Int32 × zM) → Prop := fun k (x4, M) => match k with
  | 0 => ∀ (H : Heap) (locs : List Loc) (ls : Array Slot), St G M s H locs → lv_has ls 5 [(0, .ref (G.1 + 0)), (1, .int x1), (2, .int x2), (3, .int x3), (4, .int x4)] → W p l e (rmM 4 89) s m args below meth c H locs 0 0 Q (F0 m 29 ls [])
  | 1 => ∀ (H : Heap) (locs : List Loc) (ls : Array Slot), St G M s H locs → lv_has ls 5 [(3, .int x3), (4, .int x4)] → W p l e (rmM 4 89) s m args below meth c H locs 0 0 Q (F0 m 76 ls [])
  | 2 => ∀ (H : Heap) (locs : List Loc) (ls : Array Slot), St G M s H locs → lv_has ls 5 [(0, .ref (G.1 + 0)), (1, .int x1), (2, .int x2), (3, .int x3)] → W p l e (rmM 4 89) s m args below meth c H locs 0 0 Q (F0 m 90 ls [])
  | _ => True
set_option maxHeartbeats 4000000 in
set_option maxRecDepth 100000 in
theorem w_NW_squares_B29 {G : Gl} {p : Program} {l : Launch} {e : Env} {s : State} {m : MethodId} {args : Array Value} {below : List Frame} {meth : Method} {c : Code} {Q : State → Prop} (C : Cx G cX10_squares 5 RX10 p s m args c) (x1 : Int32) (x2 : Int32) (x3 : Int32) (F : Nat) : ∀ (σ : (Int32 × zM)) (q : Nat × (Int32 × zM)), NW_squares_B29 F x1 x2 x3 σ = some q → (E_NW_squares_29 G p l e s m args below meth c Q x1 x2 x3) q.1 q.2 → (E_NW_squares_29 G p l e s m args below meth c Q x1 x2 x3) 0 σ := by
  intro (x4, M) q h hE H locs ls hS hl
  obtain ⟨hx, hb, -⟩ := id C
  unfold NW_squares_B29 at h
  try dsimp only at h
  refine lv_iload hx hb dX10_squares_29 (lv_at hl 4 rfl) ?_
  refine lv_bipush (v := 60) hx hb dX10_squares_31 (by decide) ?_
  refine lv_icmp_gt (tgt := 90) hx hb dX10_squares_33 (by decide) (fun c_10 => ?_) (fun c_10 => ?_)
  · replace h := ifp c_10 h
    obtain rfl := Option.some.inj h
    exact hE _ _ _ hS (lv_sub hl [0, 1, 2, 3] rfl)
  · replace h := ifn c_10 h
    refine lv_aload_n hx hb dX10_squares_36 rfl (lv_at hl 0 rfl) ?_
    refine r_gR C hS fl_X10_84 rfl rfl rfl dX10_squares_37 ?_
    refine lv_iload_n hx hb dX10_squares_40 rfl (lv_at hl 2 rfl) ?_
    refine lv_iload_n hx hb dX10_squares_41 rfl (lv_at hl 3 rfl) ?_
    refine lv_iload hx hb dX10_squares_42 (lv_at hl 4 rfl) ?_
    obtain ⟨⟨r_11, M_12⟩, hq_13, h⟩ := ob h
    try dsimp only at h
    refine r_thenI hS (r_runV C hS hl.1 cv_X10_235 rfl (c_X7_lay l G F x2 x3 x4 M  _ hq_13) ⟨by decide, by decide⟩ rfl rfl (Nat.le_of_ble_eq_true rfl) ⟨Nat.zero_le _, Nat.zero_le _⟩ dX10_squares_44) (fun H locs hS => ?_)
    refine lv_if_eq (tgt := 84) hx hb dX10_squares_47 (by decide) (fun c_14 => ?_) (fun c_14 => ?_)
    · replace h := ifp c_14 h
      obtain ⟨x4_15, e_16, h⟩ := olt h
      refine lv_iinc (v := x4_15) (lv' := [(4, .int x4_15), (0, .ref (G.1 + 0)), (1, .int x1), (2, .int x2), (3, .int x3)]) hx hb dX10_squares_84 hl (k := 4) rfl (by rw [e_16]; rfl) (by decide) rfl (fun ls hl => ?_)
      refine lv_goto (tgt := 29) hx hb dX10_squares_87 (by decide) ?_
      obtain rfl := Option.some.inj h
      exact hE _ _ _ hS (lv_sub hl [1, 2, 3, 4, 0] rfl)
    · replace h := ifn c_14 h
      refine lv_aload_n hx hb dX10_squares_50 rfl (lv_at hl 0 rfl) ?_
      refine r_gR C hS fl_X10_84 rfl rfl rfl dX10_squares_51 ?_
      refine lv_aload_n hx hb dX10_squares_54 rfl (lv_at hl 0 rfl) ?_
      refine r_gR C hS fl_X10_34 rfl rfl rfl dX10_squares_55 ?_
      refine lv_iload_n hx hb dX10_squares_58 rfl (lv_at hl 1 rfl) ?_
      obtain ⟨b_17, h⟩ := ift h
      refine r_aald C hS rfl rfl b_17 (zR_13 b_17) dX10_squares_59 ?_
      obtain ⟨⟨r_18, M_19⟩, hq_20, h⟩ := ob h
      try dsimp only at h
      refine r_thenI hS (r_runV C hS hl.1 cv_X10_239 rfl (c_X7_holdsIn l G F (tgA x1) M_12 (zK_13 b_17) _ hq_20) ⟨by decide, by decide⟩ rfl rfl (Nat.le_of_ble_eq_true rfl) ⟨Nat.zero_le _, Nat.zero_le _⟩ dX10_squares_60) (fun H locs hS => ?_)
      refine lv_if_eq (tgt := 84) hx hb dX10_squares_63 (by decide) (fun c_21 => ?_) (fun c_21 => ?_)
      · replace h := ifp c_21 h
        obtain ⟨x4_22, e_23, h⟩ := olt h
        refine lv_iinc (v := x4_22) (lv' := [(4, .int x4_22), (0, .ref (G.1 + 0)), (1, .int x1), (2, .int x2), (3, .int x3)]) hx hb dX10_squares_84 hl (k := 4) rfl (by rw [e_23]; rfl) (by decide) rfl (fun ls hl => ?_)
        refine lv_goto (tgt := 29) hx hb dX10_squares_87 (by decide) ?_
        obtain rfl := Option.some.inj h
        exact hE _ _ _ hS (lv_sub hl [1, 2, 3, 4, 0] rfl)
      · replace h := ifn c_21 h
        refine lv_aload_n hx hb dX10_squares_66 rfl (lv_at hl 0 rfl) ?_
        refine r_gR C hS fl_X10_84 rfl rfl rfl dX10_squares_67 ?_
        obtain ⟨⟨r_24, M_25⟩, hq_26, h⟩ := ob h
        try dsimp only at h
        refine r_thenI hS (r_runV C hS hl.1 cv_X10_243 rfl (c_X7_isUnlike l G F  M_19  _ hq_26) ⟨by decide, by decide⟩ rfl rfl (Nat.le_of_ble_eq_true rfl) ⟨Nat.zero_le _, Nat.zero_le _⟩ dX10_squares_70) (fun H locs hS => ?_)
        refine lv_if_eq (tgt := 84) hx hb dX10_squares_73 (by decide) (fun c_27 => ?_) (fun c_27 => ?_)
        · replace h := ifp c_27 h
          obtain ⟨x4_28, e_29, h⟩ := olt h
          refine lv_iinc (v := x4_28) (lv' := [(4, .int x4_28), (0, .ref (G.1 + 0)), (1, .int x1), (2, .int x2), (3, .int x3)]) hx hb dX10_squares_84 hl (k := 4) rfl (by rw [e_29]; rfl) (by decide) rfl (fun ls hl => ?_)
          refine lv_goto (tgt := 29) hx hb dX10_squares_87 (by decide) ?_
          obtain rfl := Option.some.inj h
          exact hE _ _ _ hS (lv_sub hl [1, 2, 3, 4, 0] rfl)
        · replace h := ifn c_27 h
          obtain rfl := Option.some.inj h
          exact hE _ _ _ hS (lv_sub hl [3, 4] rfl)
set_option maxHeartbeats 4000000 in
set_option maxRecDepth 100000 in
theorem w_NW_squares_B20 {G : Gl} {p : Program} {l : Launch} {e : Env} {s : State} {m : MethodId} {args : Array Value} {below : List Frame} {meth : Method} {c : Code} {Q : State → Prop} (C : Cx G cX10_squares 5 RX10 p s m args c) (x1 : Int32) (x2 : Int32) (F : Nat) : ∀ (σ : (Int32 × Int32 × zM)) (q : Nat × (Int32 × Int32 × zM)), NW_squares_B20 F x1 x2 σ = some q → (E_NW_squares_20 G p l e s m args below meth c Q x1 x2) q.1 q.2 → (E_NW_squares_20 G p l e s m args below meth c Q x1 x2) 0 σ := by
  intro (x3, x4, M) q h hE H locs ls hS hl
  obtain ⟨hx, hb, -⟩ := id C
  unfold NW_squares_B20 at h
  try dsimp only at h
  refine lv_iload_n hx hb dX10_squares_20 rfl (lv_at hl 3 rfl) ?_
  refine lv_bipush (v := 60) hx hb dX10_squares_21 (by decide) ?_
  refine lv_icmp_gt (tgt := 96) hx hb dX10_squares_23 (by decide) (fun c_9 => ?_) (fun c_9 => ?_)
  · replace h := ifp c_9 h
    obtain rfl := Option.some.inj h
    exact hE _ _ _ hS (lv_sub hl [] rfl)
  · replace h := ifn c_9 h
    refine lv_iconst (v := 1) hx hb dX10_squares_26 (by decide) ?_
    refine lv_istore (lv' := [(4, .int 1), (0, .ref (G.1 + 0)), (1, .int x1), (2, .int x2), (3, .int x3)]) hx hb dX10_squares_27 hl (by decide) rfl (fun ls hl => ?_)
    obtain ⟨⟨k_32, x4_30, M_31⟩, hq_33, h⟩ := ob h
    try dsimp only at h
    refine loopW (E := (E_NW_squares_29 G p l e s m _ below meth c _ x1 x2 x3)) (w_NW_squares_B29 C x1 x2 x3 F) F _ _ hq_33 ?_ _ _ _ hS (lv_sub hl [1, 2, 3, 4, 0] rfl)
    by_cases ek_37 : k_32 = 1
    · replace h := ifp ek_37 h
      subst ek_37
      intro H locs ls hS hl
      obtain rfl := Option.some.inj h
      exact hE _ _ _ hS (lv_sub hl [0, 1] rfl)
    · replace h := ifn ek_37 h
      by_cases ek_36 : k_32 = 2
      · replace h := ifp ek_36 h
        subst ek_36
        intro H locs ls hS hl
        obtain ⟨x3_34, e_35, h⟩ := olt h
        refine lv_iinc (v := x3_34) (lv' := [(3, .int x3_34), (0, .ref (G.1 + 0)), (1, .int x1), (2, .int x2)]) hx hb dX10_squares_90 hl (k := 3) rfl (by rw [e_35]; rfl) (by decide) rfl (fun ls hl => ?_)
        refine lv_goto (tgt := 20) hx hb dX10_squares_93 (by decide) ?_
        obtain rfl := Option.some.inj h
        exact hE _ _ _ hS (lv_sub hl [1, 2, 3, 0] rfl)
      · replace h := ifn ek_36 h
        cases h
set_option maxHeartbeats 4000000 in
set_option maxRecDepth 100000 in
theorem c_X10_squares (l : Launch) (G : Gl) (F : Nat) (x1 : Int32) (x2 : Int32) (M : zM)  (q : Int32 × zM) (h : NW_squares F x1 x2 M = some q) : Met l yX10_squares (wsM yX10_squares cX10_squares 5 (some .int)) (rmM 4 89) (Pre G M [.ref (G.1 + 0), .int x1, .int x2]) (PoI G q) 0 0 (gA G) := by
  refine r_met (own := RX10) rfl (by decide) (Nat.le_of_ble_eq_true rfl) ?_
  intro p e s m below meth c ls C hr hlk hS hl
  have hl : lv_has ls 5 [(0, .ref (G.1 + 0)), (1, .int x1), (2, .int x2)] := hl
  obtain ⟨hx, hb, -⟩ := id C
  unfold NW_squares at h
  refine lv_iload_n hx hb dX10_squares_0 rfl (lv_at hl 1 rfl) ?_
  obtain ⟨⟨r_1, M_2⟩, hq_3, h⟩ := ob h
  try dsimp only at h
  refine r_thenI hS (r_runS C hS hl.1 cs_X10_100 (c_X10_isTongue l G F x1 M  _ hq_3) ⟨by decide, by decide⟩ rfl rfl (Nat.le_of_ble_eq_true rfl) ⟨Nat.zero_le _, Nat.zero_le _⟩ dX10_squares_1) (fun H locs hS => ?_)
  refine lv_if_eq (tgt := 14) hx hb dX10_squares_4 (by decide) (fun c_4 => ?_) (fun c_4 => ?_)
  · replace h := ifp c_4 h
    refine lv_sipush (v := (-1001)) hx hb dX10_squares_14 (by decide) ?_
    exact r_iret C hS hr hlk h dX10_squares_17
  · replace h := ifn c_4 h
    refine lv_iload_n hx hb dX10_squares_7 rfl (lv_at hl 2 rfl) ?_
    obtain ⟨⟨r_5, M_6⟩, hq_7, h⟩ := ob h
    try dsimp only at h
    refine r_thenI hS (r_runS C hS hl.1 cs_X10_139 (c_X10_isNumber l G F x2 M_2  _ hq_7) ⟨by decide, by decide⟩ rfl rfl (Nat.le_of_ble_eq_true rfl) ⟨Nat.zero_le _, Nat.zero_le _⟩ dX10_squares_8) (fun H locs hS => ?_)
    refine lv_if_ne (tgt := 18) hx hb dX10_squares_11 (by decide) (fun c_8 => ?_) (fun c_8 => ?_)
    · replace h := ifn c_8 h
      refine lv_iconst (v := 1) hx hb dX10_squares_18 (by decide) ?_
      refine lv_istore_n (lv' := [(3, .int 1), (0, .ref (G.1 + 0)), (1, .int x1), (2, .int x2)]) hx hb dX10_squares_19 rfl hl (by decide) rfl (fun ls hl => ?_)
      obtain ⟨⟨k_41, x3_38, x4_39, M_40⟩, hq_42, h⟩ := ob h
      try dsimp only at h
      refine loopW (E := (E_NW_squares_20 G p l e s m _ below meth c _ x1 x2)) (w_NW_squares_B20 C x1 x2 F) F _ _ hq_42 ?_ _ _ _ hS (lv_sub hl [1, 2, 3, 0] rfl)
      by_cases ek_44 : k_41 = 1
      · replace h := ifp ek_44 h
        subst ek_44
        intro H locs ls hS hl
        refine lv_iload_n hx hb dX10_squares_76 rfl (lv_at hl 0 rfl) ?_
        refine lv_bipush (v := 100) hx hb dX10_squares_77 (by decide) ?_
        refine lv_imul hx hb dX10_squares_79 ?_
        refine lv_iload hx hb dX10_squares_80 (lv_at hl 1 rfl) ?_
        refine lv_iadd hx hb dX10_squares_82 ?_
        exact r_iret C hS hr hlk h dX10_squares_83
      · replace h := ifn ek_44 h
        by_cases ek_43 : k_41 = 2
        · replace h := ifp ek_43 h
          subst ek_43
          intro H locs ls hS hl
          refine lv_iconst (v := (-1)) hx hb dX10_squares_96 (by decide) ?_
          exact r_iret C hS hr hlk h dX10_squares_97
        · replace h := ifn ek_43 h
          cases h
    · replace h := ifp c_8 h
      refine lv_sipush (v := (-1001)) hx hb dX10_squares_14 (by decide) ?_
      exact r_iret C hS hr hlk h dX10_squares_17
set_option maxHeartbeats 4000000 in
set_option maxRecDepth 100000 in
theorem c_X11_in (l : Launch) (G : Gl) (F : Nat) (x0 : Int64) (x2 : Int64) (x4 : Int64) (M : zM)  (q : Int32 × zM) (h : Mod_in F x0 x2 x4 M = some q) : Met l yX11_in (wsM yX11_in cX11_in 6 (some .boolean)) (rmM 0 0) (Pre G M [.long x0, .long x2, .long x4]) (PoI G q) 0 0 (gA G) := by
  refine r_met (own := RX11) rfl (by decide) (Nat.le_of_ble_eq_true rfl) ?_
  intro p e s m below meth c ls C hr hlk hS hl
  have hl : lv_has ls 6 [(0, .long x0), (2, .long x2), (4, .long x4)] := hl
  obtain ⟨hx, hb, -⟩ := id C
  unfold Mod_in at h
  refine lv_lload_n hx hb dX11_in_0 rfl (lv_at hl 0 rfl) ?_
  refine lv_lload_n hx hb dX11_in_1 rfl (lv_at hl 1 rfl) ?_
  refine W.lcmp hx hb dX11_in_2 ?_
  refine lv_if_lt (tgt := 17) hx hb dX11_in_3 (by decide) (fun c_1 => ?_) (fun c_1 => ?_)
  · replace h := ifp c_1 h
    refine lv_iconst (v := 0) hx hb dX11_in_17 (by decide) ?_
    exact r_zret C hS hr hlk h dX11_in_18
  · replace h := ifn c_1 h
    refine lv_lload_n hx hb dX11_in_6 rfl (lv_at hl 0 rfl) ?_
    refine lv_lload hx hb dX11_in_7 (lv_at hl 2 rfl) ?_
    refine W.lcmp hx hb dX11_in_9 ?_
    refine lv_if_gt (tgt := 17) hx hb dX11_in_10 (by decide) (fun c_2 => ?_) (fun c_2 => ?_)
    · replace h := ifp c_2 h
      refine lv_iconst (v := 0) hx hb dX11_in_17 (by decide) ?_
      exact r_zret C hS hr hlk h dX11_in_18
    · replace h := ifn c_2 h
      refine lv_iconst (v := 1) hx hb dX11_in_13 (by decide) ?_
      refine lv_goto (tgt := 18) hx hb dX11_in_14 (by decide) ?_
      exact r_zret C hS hr hlk h dX11_in_18
set_option maxHeartbeats 4000000 in
set_option maxRecDepth 100000 in
theorem c_X11_isTongue (l : Launch) (G : Gl) (F : Nat) (x0 : Int32) (M : zM)  (q : Int32 × zM) (h : Mod_isTongue F x0 M = some q) : Met l yX11_isTongue (wsM yX11_isTongue cX11_isTongue 1 (some .boolean)) (rmM 1 25) (Pre G M [.int x0]) (PoI G q) 0 0 (gA G) := by
  refine r_met (own := RX11) rfl (by decide) (Nat.le_of_ble_eq_true rfl) ?_
  intro p e s m below meth c ls C hr hlk hS hl
  have hl : lv_has ls 1 [(0, .int x0)] := hl
  obtain ⟨hx, hb, -⟩ := id C
  unfold Mod_isTongue at h
  refine lv_iload_n hx hb dX11_isTongue_0 rfl (lv_at hl 0 rfl) ?_
  refine lv_i2l (v := x0.toInt64) hx hb dX11_isTongue_1 rfl ?_
  refine lv_lconst (v := 0) hx hb dX11_isTongue_2 (by decide) ?_
  refine lv_ldc2 hx hb C.2.2.2.1 (C.2.2.2.2.1 _ tw_1049) dX11_isTongue_3 ?_
  obtain ⟨⟨r_1, M_2⟩, hq_3, h⟩ := ob h
  try dsimp only at h
  refine r_thenI hS (r_runS C hS hl.1 cs_X11_123 (c_X11_in l G F x0.toInt64 0 2 M  _ hq_3) ⟨by decide, by decide⟩ rfl rfl (Nat.le_of_ble_eq_true rfl) ⟨Nat.zero_le _, Nat.zero_le _⟩ dX11_isTongue_6) (fun H locs hS => ?_)
  exact r_zret C hS hr hlk h dX11_isTongue_9
set_option maxHeartbeats 4000000 in
set_option maxRecDepth 100000 in
theorem c_X11_isNumber (l : Launch) (G : Gl) (F : Nat) (x0 : Int32) (M : zM)  (q : Int32 × zM) (h : Mod_isNumber F x0 M = some q) : Met l yX11_isNumber (wsM yX11_isNumber cX11_isNumber 1 (some .boolean)) (rmM 1 25) (Pre G M [.int x0]) (PoI G q) 0 0 (gA G) := by
  refine r_met (own := RX11) rfl (by decide) (Nat.le_of_ble_eq_true rfl) ?_
  intro p e s m below meth c ls C hr hlk hS hl
  have hl : lv_has ls 1 [(0, .int x0)] := hl
  obtain ⟨hx, hb, -⟩ := id C
  unfold Mod_isNumber at h
  refine lv_iload_n hx hb dX11_isNumber_0 rfl (lv_at hl 0 rfl) ?_
  refine lv_i2l (v := x0.toInt64) hx hb dX11_isNumber_1 rfl ?_
  refine lv_lconst (v := 0) hx hb dX11_isNumber_2 (by decide) ?_
  refine lv_ldc2 hx hb C.2.2.2.1 (C.2.2.2.2.1 _ tw_1125) dX11_isNumber_3 ?_
  obtain ⟨⟨r_1, M_2⟩, hq_3, h⟩ := ob h
  try dsimp only at h
  refine r_thenI hS (r_runS C hS hl.1 cs_X11_123 (c_X11_in l G F x0.toInt64 0 999 M  _ hq_3) ⟨by decide, by decide⟩ rfl rfl (Nat.le_of_ble_eq_true rfl) ⟨Nat.zero_le _, Nat.zero_le _⟩ dX11_isNumber_6) (fun H locs hS => ?_)
  exact r_zret C hS hr hlk h dX11_isNumber_9
def E_Mod_feed_37 (G : Gl) (p : Program) (l : Launch) (e : Env) (s : State) (m : MethodId) (args : Array Value) (below : List Frame) (meth : Method) (c : Code) (Q : State → Prop) (x2 : Int64) : Nat → (Int32 × zM) → Prop := fun k (x4, M) => match k with
  | 0 => ∀ (H : Heap) (locs : List Loc) (ls : Array Slot), St G M s H locs → lv_has ls 5 [(0, .ref (G.1 + 63)), (2, .long x2), (4, .int x4)] → W p l e (rmM 1 25) s m args below meth c H locs 0 0 Q (F0 m 37 ls [])
  | 1 => ∀ (H : Heap) (locs : List Loc) (ls : Array Slot), St G M s H locs → lv_has ls 5 [(0, .ref (G.1 + 63))] → W p l e (rmM 1 25) s m args below meth c H locs 0 0 Q (F0 m 79 ls [])
  | _ => True
set_option maxHeartbeats 4000000 in
set_option maxRecDepth 100000 in
theorem w_Mod_feed_B37 {G : Gl} {p : Program} {l : Launch} {e : Env} {s : State} {m : MethodId} {args : Array Value} {below : List Frame} {meth : Method} {c : Code} {Q : State → Prop} (C : Cx G cX11_feed 5 RX11 p s m args c) (x2 : Int64) (F : Nat) : ∀ (σ : (Int32 × zM)) (q : Nat × (Int32 × zM)), Mod_feed_B37 F x2 σ = some q → (E_Mod_feed_37 G p l e s m args below meth c Q x2) q.1 q.2 → (E_Mod_feed_37 G p l e s m args below meth c Q x2) 0 σ := by
  intro (x4, M) q h hE H locs ls hS hl
  obtain ⟨hx, hb, -⟩ := id C
  unfold Mod_feed_B37 at h
  try dsimp only at h
  refine lv_iload hx hb dX11_feed_37 (lv_at hl 2 rfl) ?_
  refine lv_if_lt (tgt := 79) hx hb dX11_feed_39 (by decide) (fun c_8 => ?_) (fun c_8 => ?_)
  · replace h := ifp c_8 h
    obtain rfl := Option.some.inj h
    exact hE _ _ _ hS (lv_sub hl [0] rfl)
  · replace h := ifn c_8 h
    refine lv_aload_n hx hb dX11_feed_42 rfl (lv_at hl 0 rfl) ?_
    refine r_gR C hS fl_X11_57 rfl rfl rfl dX11_feed_43 ?_
    refine lv_aload_n hx hb dX11_feed_46 rfl (lv_at hl 0 rfl) ?_
    refine r_gI C hS fl_X11_131 rfl rfl dX11_feed_47 ?_
    refine lv_lload_n hx hb dX11_feed_50 rfl (lv_at hl 1 rfl) ?_
    refine lv_bipush (v := 8) hx hb dX11_feed_51 (by decide) ?_
    refine lv_iload hx hb dX11_feed_53 (lv_at hl 2 rfl) ?_
    refine lv_imul hx hb dX11_feed_55 ?_
    refine lv_lshr (v := sr x2 (8 * x4)) hx hb dX11_feed_56 rfl ?_
    refine lv_ldc2 hx hb C.2.2.2.1 (C.2.2.2.2.1 _ tw_1041) dX11_feed_57 ?_
    refine lv_land hx hb dX11_feed_60 ?_
    refine lv_l2i (v := ((sr x2 (8 * x4)) &&& 255).toInt32) hx hb dX11_feed_61 rfl ?_
    obtain ⟨b_9, h⟩ := ift h
    obtain ⟨M_10, e_11, h⟩ := olt h
    refine r_iast C hS rfl rfl b_9 e_11 dX11_feed_62 (fun H locs hS => ?_)
    refine lv_aload_n hx hb dX11_feed_63 rfl (lv_at hl 0 rfl) ?_
    refine lv_dup hx hb dX11_feed_64 rfl ?_
    refine r_gI C hS fl_X11_131 rfl rfl dX11_feed_65 ?_
    refine lv_iconst (v := 1) hx hb dX11_feed_68 (by decide) ?_
    refine lv_iadd hx hb dX11_feed_69 ?_
    obtain ⟨M_12, e_13, h⟩ := olt h
    refine r_pI C hS fp_X11_131 rfl rfl e_13 dX11_feed_70 (fun H locs hS => ?_)
    obtain ⟨x4_14, e_15, h⟩ := olt h
    refine lv_iinc (v := x4_14) (lv' := [(4, .int x4_14), (0, .ref (G.1 + 63)), (2, .long x2)]) hx hb dX11_feed_73 hl (k := 2) rfl (by rw [e_15]; rfl) (by decide) rfl (fun ls hl => ?_)
    refine lv_goto (tgt := 37) hx hb dX11_feed_76 (by decide) ?_
    obtain rfl := Option.some.inj h
    exact hE _ _ _ hS (lv_sub hl [1, 2, 0] rfl)
set_option maxHeartbeats 4000000 in
set_option maxRecDepth 100000 in
theorem c_X11_feed (l : Launch) (G : Gl) (F : Nat) (x1 : Int32) (x2 : Int64) (M : zM)  (q : Int32 × zM) (h : Mod_feed F x1 x2 M = some q) : Met l yX11_feed (wsM yX11_feed cX11_feed 5 (some .int)) (rmM 1 25) (Pre G M [.ref (G.1 + 63), .int x1, .long x2]) (PoI G q) 0 0 (gA G) := by
  refine r_met (own := RX11) rfl (by decide) (Nat.le_of_ble_eq_true rfl) ?_
  intro p e s m below meth c ls C hr hlk hS hl
  have hl : lv_has ls 5 [(0, .ref (G.1 + 63)), (1, .int x1), (2, .long x2)] := hl
  obtain ⟨hx, hb, -⟩ := id C
  unfold Mod_feed at h
  refine lv_iload_n hx hb dX11_feed_0 rfl (lv_at hl 1 rfl) ?_
  refine lv_i2l (v := x1.toInt64) hx hb dX11_feed_1 rfl ?_
  refine lv_lconst (v := 1) hx hb dX11_feed_2 (by decide) ?_
  refine lv_ldc2 hx hb C.2.2.2.1 (C.2.2.2.2.1 _ tw_1037) dX11_feed_3 ?_
  obtain ⟨⟨r_1, M_2⟩, hq_3, h⟩ := ob h
  try dsimp only at h
  refine r_thenI hS (r_runS C hS hl.1 cs_X11_123 (c_X11_in l G F x1.toInt64 1 8 M  _ hq_3) ⟨by decide, by decide⟩ rfl rfl (Nat.le_of_ble_eq_true rfl) ⟨Nat.zero_le _, Nat.zero_le _⟩ dX11_feed_6) (fun H locs hS => ?_)
  refine lv_if_ne (tgt := 16) hx hb dX11_feed_9 (by decide) (fun c_4 => ?_) (fun c_4 => ?_)
  · replace h := ifn c_4 h
    refine lv_aload_n hx hb dX11_feed_16 rfl (lv_at hl 0 rfl) ?_
    refine r_gI C hS fl_X11_131 rfl rfl dX11_feed_17 ?_
    refine lv_iload_n hx hb dX11_feed_20 rfl (lv_at hl 1 rfl) ?_
    refine lv_iadd hx hb dX11_feed_21 ?_
    refine lv_sipush (v := 240) hx hb dX11_feed_22 (by decide) ?_
    refine lv_icmp_le (tgt := 32) hx hb dX11_feed_25 (by decide) (fun c_5 => ?_) (fun c_5 => ?_)
    · replace h := ifp c_5 h
      refine lv_iload_n hx hb dX11_feed_32 rfl (lv_at hl 1 rfl) ?_
      refine lv_iconst (v := 1) hx hb dX11_feed_33 (by decide) ?_
      refine lv_isub hx hb dX11_feed_34 ?_
      obtain ⟨x4_6, e_7, h⟩ := olt h
      refine r_nI e_7 ?_
      refine lv_istore (lv' := [(4, .int x4_6), (0, .ref (G.1 + 63)), (1, .int x1), (2, .long x2)]) hx hb dX11_feed_35 hl (by decide) rfl (fun ls hl => ?_)
      obtain ⟨⟨k_18, x4_16, M_17⟩, hq_19, h⟩ := ob h
      try dsimp only at h
      refine loopW (E := (E_Mod_feed_37 G p l e s m _ below meth c _ x2)) (w_Mod_feed_B37 C x2 F) F _ _ hq_19 ?_ _ _ _ hS (lv_sub hl [1, 3, 0] rfl)
      by_cases ek_20 : k_18 = 1
      · replace h := ifp ek_20 h
        subst ek_20
        intro H locs ls hS hl
        refine lv_aload_n hx hb dX11_feed_79 rfl (lv_at hl 0 rfl) ?_
        refine r_gI C hS fl_X11_131 rfl rfl dX11_feed_80 ?_
        exact r_iret C hS hr hlk h dX11_feed_83
      · replace h := ifn ek_20 h
        cases h
    · replace h := ifn c_5 h
      refine lv_sipush (v := (-1004)) hx hb dX11_feed_28 (by decide) ?_
      exact r_iret C hS hr hlk h dX11_feed_31
  · replace h := ifp c_4 h
    refine lv_sipush (v := (-1002)) hx hb dX11_feed_12 (by decide) ?_
    exact r_iret C hS hr hlk h dX11_feed_15
def E_Mod_here_0 (G : Gl) (p : Program) (l : Launch) (e : Env) (s : State) (m : MethodId) (args : Array Value) (below : List Frame) (meth : Method) (c : Code) (Q : State → Prop)  : Nat → zM → Prop := fun k (M) => match k with
  | 0 => ∀ (H : Heap) (locs : List Loc) (ls : Array Slot), St G M s H locs → lv_has ls 1 [(0, .ref (G.1 + 63))] → W p l e (rmM 0 0) s m args below meth c H locs 0 0 Q (F0 m 0 ls [])
  | 1 => ∀ (H : Heap) (locs : List Loc) (ls : Array Slot), St G M s H locs → lv_has ls 1 [(0, .ref (G.1 + 63))] → W p l e (rmM 0 0) s m args below meth c H locs 0 0 Q (F0 m 38 ls [])
  | _ => True
set_option maxHeartbeats 4000000 in
set_option maxRecDepth 100000 in
theorem w_Mod_here_B0 {G : Gl} {p : Program} {l : Launch} {e : Env} {s : State} {m : MethodId} {args : Array Value} {below : List Frame} {meth : Method} {c : Code} {Q : State → Prop} (C : Cx G cX11_here 1 RX11 p s m args c)  (F : Nat) : ∀ (σ : zM) (q : Nat × zM), Mod_here_B0 F  σ = some q → (E_Mod_here_0 G p l e s m args below meth c Q ) q.1 q.2 → (E_Mod_here_0 G p l e s m args below meth c Q ) 0 σ := by
  intro (M) q h hE H locs ls hS hl
  obtain ⟨hx, hb, -⟩ := id C
  unfold Mod_here_B0 at h
  try dsimp only at h
  refine lv_aload_n hx hb dX11_here_0 rfl (lv_at hl 0 rfl) ?_
  refine r_gI C hS fl_X11_136 rfl rfl dX11_here_1 ?_
  refine lv_aload_n hx hb dX11_here_4 rfl (lv_at hl 0 rfl) ?_
  refine r_gI C hS fl_X11_131 rfl rfl dX11_here_5 ?_
  refine lv_icmp_ge (tgt := 38) hx hb dX11_here_8 (by decide) (fun c_1 => ?_) (fun c_1 => ?_)
  · replace h := ifp c_1 h
    obtain rfl := Option.some.inj h
    exact hE _ _ _ hS (lv_sub hl [0] rfl)
  · replace h := ifn c_1 h
    refine lv_aload_n hx hb dX11_here_11 rfl (lv_at hl 0 rfl) ?_
    refine r_gR C hS fl_X11_57 rfl rfl rfl dX11_here_12 ?_
    refine lv_aload_n hx hb dX11_here_15 rfl (lv_at hl 0 rfl) ?_
    refine r_gI C hS fl_X11_136 rfl rfl dX11_here_16 ?_
    obtain ⟨b_2, h⟩ := ift h
    refine r_iald C hS rfl rfl b_2 dX11_here_19 ?_
    refine lv_bipush (v := 32) hx hb dX11_here_20 (by decide) ?_
    refine lv_icmp_ne (tgt := 38) hx hb dX11_here_22 (by decide) (fun c_3 => ?_) (fun c_3 => ?_)
    · replace h := ifn c_3 h
      obtain rfl := Option.some.inj h
      exact hE _ _ _ hS (lv_sub hl [0] rfl)
    · replace h := ifp c_3 h
      refine lv_aload_n hx hb dX11_here_25 rfl (lv_at hl 0 rfl) ?_
      refine lv_dup hx hb dX11_here_26 rfl ?_
      refine r_gI C hS fl_X11_136 rfl rfl dX11_here_27 ?_
      refine lv_iconst (v := 1) hx hb dX11_here_30 (by decide) ?_
      refine lv_iadd hx hb dX11_here_31 ?_
      obtain ⟨M_4, e_5, h⟩ := olt h
      refine r_pI C hS fp_X11_136 rfl rfl e_5 dX11_here_32 (fun H locs hS => ?_)
      refine lv_goto (tgt := 0) hx hb dX11_here_35 (by decide) ?_
      obtain rfl := Option.some.inj h
      exact hE _ _ _ hS (lv_sub hl [0] rfl)
set_option maxHeartbeats 4000000 in
set_option maxRecDepth 100000 in
theorem w_Mod_here_J38 {G : Gl} {p : Program} {l : Launch} {e : Env} {s : State} {m : MethodId} {args : Array Value} {below : List Frame} {meth : Method} {c : Code} (C : Cx G cX11_here 1 RX11 p s m args c) (hr : meth.sig.returnType = (some .int)) (hlk : meth.locks = false) (F : Nat)  (M : zM)  (q : Int32 × zM) (h : Mod_here_J38 F  M = some q) (H : Heap) (locs : List Loc) (ls : Array Slot) (hS : St G M s H locs) (hl : lv_has ls 1 [(0, .ref (G.1 + 63))]) : W p l e (rmM 0 0) s m args below meth c H locs 0 0 (MQ below (PoI G q) args s 0 0 (gA G)) (F0 m 38 ls []) := by
  obtain ⟨hx, hb, -⟩ := id C
  unfold Mod_here_J38 at h
  refine lv_aload_n hx hb dX11_here_38 rfl (lv_at hl 0 rfl) ?_
  refine r_gI C hS fl_X11_136 rfl rfl dX11_here_39 ?_
  refine lv_aload_n hx hb dX11_here_42 rfl (lv_at hl 0 rfl) ?_
  refine r_gI C hS fl_X11_131 rfl rfl dX11_here_43 ?_
  refine lv_icmp_ge (tgt := 61) hx hb dX11_here_46 (by decide) (fun c_9 => ?_) (fun c_9 => ?_)
  · replace h := ifp c_9 h
    refine lv_iconst (v := (-1)) hx hb dX11_here_61 (by decide) ?_
    exact r_iret C hS hr hlk h dX11_here_62
  · replace h := ifn c_9 h
    refine lv_aload_n hx hb dX11_here_49 rfl (lv_at hl 0 rfl) ?_
    refine r_gR C hS fl_X11_57 rfl rfl rfl dX11_here_50 ?_
    refine lv_aload_n hx hb dX11_here_53 rfl (lv_at hl 0 rfl) ?_
    refine r_gI C hS fl_X11_136 rfl rfl dX11_here_54 ?_
    obtain ⟨b_10, h⟩ := ift h
    refine r_iald C hS rfl rfl b_10 dX11_here_57 ?_
    refine lv_goto (tgt := 62) hx hb dX11_here_58 (by decide) ?_
    exact r_iret C hS hr hlk h dX11_here_62
set_option maxHeartbeats 4000000 in
set_option maxRecDepth 100000 in
theorem c_X11_here (l : Launch) (G : Gl) (F : Nat)  (M : zM)  (q : Int32 × zM) (h : Mod_here F  M = some q) : Met l yX11_here (wsM yX11_here cX11_here 1 (some .int)) (rmM 0 0) (Pre G M [.ref (G.1 + 63)]) (PoI G q) 0 0 (gA G) := by
  refine r_met (own := RX11) rfl (by decide) (Nat.le_of_ble_eq_true rfl) ?_
  intro p e s m below meth c ls C hr hlk hS hl
  have hl : lv_has ls 1 [(0, .ref (G.1 + 63))] := hl
  obtain ⟨hx, hb, -⟩ := id C
  unfold Mod_here at h
  obtain ⟨⟨k_7, M_6⟩, hq_8, h⟩ := ob h
  try dsimp only at h
  refine loopW (E := (E_Mod_here_0 G p l e s m _ below meth c _ )) (w_Mod_here_B0 C  F) F _ _ hq_8 ?_ _ _ _ hS (lv_sub hl [0] rfl)
  by_cases ek_11 : k_7 = 1
  · replace h := ifp ek_11 h
    subst ek_11
    intro H locs ls hS hl
    exact w_Mod_here_J38 C hr hlk F  M_6  q h _ _ _ hS (lv_sub hl [0] rfl)
  · replace h := ifn ek_11 h
    cases h
set_option maxHeartbeats 4000000 in
set_option maxRecDepth 100000 in
theorem c_X11_fails (l : Launch) (G : Gl) (F : Nat) (x1 : Int32) (x2 : Int32) (M : zM)  (q : Int32 × zM) (h : Mod_fails F x1 x2 M = some q) : Met l yX11_fails (wsM yX11_fails cX11_fails 3 (some .int)) (rmM 0 0) (Pre G M [.ref (G.1 + 63), .int x1, .int x2]) (PoI G q) 0 0 (gA G) := by
  refine r_met (own := RX11) rfl (by decide) (Nat.le_of_ble_eq_true rfl) ?_
  intro p e s m below meth c ls C hr hlk hS hl
  have hl : lv_has ls 3 [(0, .ref (G.1 + 63)), (1, .int x1), (2, .int x2)] := hl
  obtain ⟨hx, hb, -⟩ := id C
  unfold Mod_fails at h
  refine lv_aload_n hx hb dX11_fails_0 rfl (lv_at hl 0 rfl) ?_
  refine lv_iload_n hx hb dX11_fails_1 rfl (lv_at hl 2 rfl) ?_
  obtain ⟨M_1, e_2, h⟩ := olt h
  refine r_pI C hS fp_X11_60 rfl rfl e_2 dX11_fails_2 (fun H locs hS => ?_)
  refine lv_iload_n hx hb dX11_fails_5 rfl (lv_at hl 1 rfl) ?_
  exact r_iret C hS hr hlk h dX11_fails_6
def E_Mod_takeNumber_42 (G : Gl) (p : Program) (l : Launch) (e : Env) (s : State) (m : MethodId) (args : Array Value) (below : List Frame) (meth : Method) (c : Code) (Q : State → Prop) (x1 : Int32) (x2 : Int32) : Nat → zM → Prop := fun k (M) => match k with
  | 0 => ∀ (H : Heap) (locs : List Loc) (ls : Array Slot), St G M s H locs → lv_has ls 4 [(0, .ref (G.1 + 63)), (1, .int x1), (2, .int x2)] → W p l e (rmM 1 25) s m args below meth c H locs 0 0 Q (F0 m 42 ls [])
  | 1 => ∀ (H : Heap) (locs : List Loc) (ls : Array Slot), St G M s H locs → lv_has ls 4 [(0, .ref (G.1 + 63)), (1, .int x1), (2, .int x2)] → W p l e (rmM 1 25) s m args below meth c H locs 0 0 Q (F0 m 129 ls [])
  | _ => True
set_option maxHeartbeats 4000000 in
set_option maxRecDepth 100000 in
theorem w_Mod_takeNumber_J113 {G : Gl} {p : Program} {l : Launch} {e : Env} {s : State} {m : MethodId} {args : Array Value} {below : List Frame} {meth : Method} {c : Code} {Q : State → Prop} (C : Cx G cX11_takeNumber 4 RX11 p s m args c) (x1 : Int32) (x2 : Int32) (F : Nat) (y1 : Int32) (M : zM)  (q : Nat × zM) (h : Mod_takeNumber_J113 F x1 x2 y1 M = some q) (hE : (E_Mod_takeNumber_42 G p l e s m args below meth c Q x1 x2) q.1 q.2) (H : Heap) (locs : List Loc) (ls : Array Slot) (hS : St G M s H locs) (hl : lv_has ls 4 [(0, .ref (G.1 + 63)), (1, .int x1), (2, .int x2)]) : W p l e (rmM 1 25) s m args below meth c H locs 0 0 Q (F0 m 113 ls [.int y1, .ref (G.1 + 63)]) := by
  obtain ⟨hx, hb, -⟩ := id C
  unfold Mod_takeNumber_J113 at h
  obtain ⟨M_20, e_21, h⟩ := olt h
  refine r_pI C hS fp_X11_154 rfl rfl e_21 dX11_takeNumber_113 (fun H locs hS => ?_)
  refine lv_aload_n hx hb dX11_takeNumber_116 rfl (lv_at hl 0 rfl) ?_
  refine lv_dup hx hb dX11_takeNumber_117 rfl ?_
  refine r_gI C hS fl_X11_136 rfl rfl dX11_takeNumber_118 ?_
  refine lv_iconst (v := 1) hx hb dX11_takeNumber_121 (by decide) ?_
  refine lv_iadd hx hb dX11_takeNumber_122 ?_
  obtain ⟨M_22, e_23, h⟩ := olt h
  refine r_pI C hS fp_X11_136 rfl rfl e_23 dX11_takeNumber_123 (fun H locs hS => ?_)
  refine lv_goto (tgt := 42) hx hb dX11_takeNumber_126 (by decide) ?_
  obtain rfl := Option.some.inj h
  exact hE _ _ _ hS (lv_sub hl [0, 1, 2] rfl)
set_option maxHeartbeats 4000000 in
set_option maxRecDepth 100000 in
theorem w_Mod_takeNumber_B42 {G : Gl} {p : Program} {l : Launch} {e : Env} {s : State} {m : MethodId} {args : Array Value} {below : List Frame} {meth : Method} {c : Code} {Q : State → Prop} (C : Cx G cX11_takeNumber 4 RX11 p s m args c) (x1 : Int32) (x2 : Int32) (F : Nat) : ∀ (σ : zM) (q : Nat × zM), Mod_takeNumber_B42 F x1 x2 σ = some q → (E_Mod_takeNumber_42 G p l e s m args below meth c Q x1 x2) q.1 q.2 → (E_Mod_takeNumber_42 G p l e s m args below meth c Q x1 x2) 0 σ := by
  intro (M) q h hE H locs ls hS hl
  obtain ⟨hx, hb, -⟩ := id C
  unfold Mod_takeNumber_B42 at h
  try dsimp only at h
  refine lv_aload_n hx hb dX11_takeNumber_42 rfl (lv_at hl 0 rfl) ?_
  refine r_gI C hS fl_X11_136 rfl rfl dX11_takeNumber_43 ?_
  refine lv_aload_n hx hb dX11_takeNumber_46 rfl (lv_at hl 0 rfl) ?_
  refine r_gI C hS fl_X11_131 rfl rfl dX11_takeNumber_47 ?_
  refine lv_icmp_ge (tgt := 129) hx hb dX11_takeNumber_50 (by decide) (fun c_12 => ?_) (fun c_12 => ?_)
  · replace h := ifp c_12 h
    obtain rfl := Option.some.inj h
    exact hE _ _ _ hS (lv_sub hl [0, 1, 2] rfl)
  · replace h := ifn c_12 h
    refine lv_aload_n hx hb dX11_takeNumber_53 rfl (lv_at hl 0 rfl) ?_
    refine r_gR C hS fl_X11_57 rfl rfl rfl dX11_takeNumber_54 ?_
    refine lv_aload_n hx hb dX11_takeNumber_57 rfl (lv_at hl 0 rfl) ?_
    refine r_gI C hS fl_X11_136 rfl rfl dX11_takeNumber_58 ?_
    obtain ⟨b_13, h⟩ := ift h
    refine r_iald C hS rfl rfl b_13 dX11_takeNumber_61 ?_
    refine lv_i2l (v := (M.1 79 (M.1 63 18).toNatClampNeg).toInt64) hx hb dX11_takeNumber_62 rfl ?_
    refine lv_ldc2 hx hb C.2.2.2.1 (C.2.2.2.2.1 _ tw_1076) dX11_takeNumber_63 ?_
    refine lv_ldc2 hx hb C.2.2.2.1 (C.2.2.2.2.1 _ tw_1077) dX11_takeNumber_66 ?_
    obtain ⟨⟨r_14, M_15⟩, hq_16, h⟩ := ob h
    try dsimp only at h
    refine r_thenI hS (r_runS C hS hl.1 cs_X11_123 (c_X11_in l G F ((M.1 79 (M.1 63 18).toNatClampNeg).toInt64) 48 57 M  _ hq_16) ⟨by decide, by decide⟩ rfl rfl (Nat.le_of_ble_eq_true rfl) ⟨Nat.zero_le _, Nat.zero_le _⟩ dX11_takeNumber_69) (fun H locs hS => ?_)
    refine lv_if_eq (tgt := 129) hx hb dX11_takeNumber_72 (by decide) (fun c_17 => ?_) (fun c_17 => ?_)
    · replace h := ifp c_17 h
      obtain rfl := Option.some.inj h
      exact hE _ _ _ hS (lv_sub hl [0, 1, 2] rfl)
    · replace h := ifn c_17 h
      refine lv_aload_n hx hb dX11_takeNumber_75 rfl (lv_at hl 0 rfl) ?_
      refine lv_aload_n hx hb dX11_takeNumber_76 rfl (lv_at hl 0 rfl) ?_
      refine r_gI C hS fl_X11_154 rfl rfl dX11_takeNumber_77 ?_
      refine lv_sipush (v := 10000) hx hb dX11_takeNumber_80 (by decide) ?_
      refine lv_icmp_le (tgt := 93) hx hb dX11_takeNumber_83 (by decide) (fun c_18 => ?_) (fun c_18 => ?_)
      · replace h := ifp c_18 h
        refine lv_bipush (v := 10) hx hb dX11_takeNumber_93 (by decide) ?_
        refine lv_aload_n hx hb dX11_takeNumber_95 rfl (lv_at hl 0 rfl) ?_
        refine r_gI C hS fl_X11_154 rfl rfl dX11_takeNumber_96 ?_
        refine lv_imul hx hb dX11_takeNumber_99 ?_
        refine lv_aload_n hx hb dX11_takeNumber_100 rfl (lv_at hl 0 rfl) ?_
        refine r_gR C hS fl_X11_57 rfl rfl rfl dX11_takeNumber_101 ?_
        refine lv_aload_n hx hb dX11_takeNumber_104 rfl (lv_at hl 0 rfl) ?_
        refine r_gI C hS fl_X11_136 rfl rfl dX11_takeNumber_105 ?_
        obtain ⟨b_19, h⟩ := ift h
        refine r_iald C hS rfl rfl b_19 dX11_takeNumber_108 ?_
        refine lv_iadd hx hb dX11_takeNumber_109 ?_
        refine lv_bipush (v := 48) hx hb dX11_takeNumber_110 (by decide) ?_
        refine lv_isub hx hb dX11_takeNumber_112 ?_
        exact w_Mod_takeNumber_J113 C x1 x2 F (((10 * (M_15.1 63 29)) + (M_15.1 79 (M_15.1 63 18).toNatClampNeg)) - 48) M_15  q h hE _ _ _ hS (lv_sub hl [0, 1, 2] rfl)
      · replace h := ifn c_18 h
        refine lv_aload_n hx hb dX11_takeNumber_86 rfl (lv_at hl 0 rfl) ?_
        refine r_gI C hS fl_X11_154 rfl rfl dX11_takeNumber_87 ?_
        refine lv_goto (tgt := 113) hx hb dX11_takeNumber_90 (by decide) ?_
        exact w_Mod_takeNumber_J113 C x1 x2 F (M_15.1 63 29) M_15  q h hE _ _ _ hS (lv_sub hl [0, 1, 2] rfl)
set_option maxHeartbeats 4000000 in
set_option maxRecDepth 100000 in
theorem w_Mod_takeNumber_J157 {G : Gl} {p : Program} {l : Launch} {e : Env} {s : State} {m : MethodId} {args : Array Value} {below : List Frame} {meth : Method} {c : Code} (C : Cx G cX11_takeNumber 4 RX11 p s m args c) (hr : meth.sig.returnType = (some .int)) (hlk : meth.locks = false) (F : Nat)  (M : zM)  (q : Int32 × zM) (h : Mod_takeNumber_J157 F  M = some q) (H : Heap) (locs : List Loc) (ls : Array Slot) (hS : St G M s H locs) (hl : lv_has ls 4 [(0, .ref (G.1 + 63))]) : W p l e (rmM 1 25) s m args below meth c H locs 0 0 (MQ below (PoI G q) args s 0 0 (gA G)) (F0 m 157 ls []) := by
  obtain ⟨hx, hb, -⟩ := id C
  unfold Mod_takeNumber_J157 at h
  refine lv_aload_n hx hb dX11_takeNumber_157 rfl (lv_at hl 0 rfl) ?_
  refine lv_iconst (v := 2) hx hb dX11_takeNumber_158 (by decide) ?_
  refine lv_aload_n hx hb dX11_takeNumber_159 rfl (lv_at hl 0 rfl) ?_
  refine r_gI C hS fl_X11_151 rfl rfl dX11_takeNumber_160 ?_
  obtain ⟨⟨r_28, M_29⟩, hq_30, h⟩ := ob h
  try dsimp only at h
  refine r_thenI hS (r_runV C hS hl.1 cv_X11_147 rfl (c_X11_fails l G F 2 (M.1 63 30) M  _ hq_30) ⟨by decide, by decide⟩ rfl rfl (Nat.le_of_ble_eq_true rfl) ⟨Nat.zero_le _, Nat.zero_le _⟩ dX11_takeNumber_163) (fun H locs hS => ?_)
  refine lv_goto (tgt := 170) hx hb dX11_takeNumber_166 (by decide) ?_
  exact r_iret C hS hr hlk h dX11_takeNumber_170
set_option maxHeartbeats 4000000 in
set_option maxRecDepth 100000 in
theorem w_Mod_takeNumber_J129 {G : Gl} {p : Program} {l : Launch} {e : Env} {s : State} {m : MethodId} {args : Array Value} {below : List Frame} {meth : Method} {c : Code} (C : Cx G cX11_takeNumber 4 RX11 p s m args c) (hr : meth.sig.returnType = (some .int)) (hlk : meth.locks = false) (F : Nat) (x1 : Int32) (x2 : Int32) (M : zM)  (q : Int32 × zM) (h : Mod_takeNumber_J129 F x1 x2 M = some q) (H : Heap) (locs : List Loc) (ls : Array Slot) (hS : St G M s H locs) (hl : lv_has ls 4 [(0, .ref (G.1 + 63)), (1, .int x1), (2, .int x2)]) : W p l e (rmM 1 25) s m args below meth c H locs 0 0 (MQ below (PoI G q) args s 0 0 (gA G)) (F0 m 129 ls []) := by
  obtain ⟨hx, hb, -⟩ := id C
  unfold Mod_takeNumber_J129 at h
  refine lv_aload_n hx hb dX11_takeNumber_129 rfl (lv_at hl 0 rfl) ?_
  refine r_gI C hS fl_X11_136 rfl rfl dX11_takeNumber_130 ?_
  refine lv_aload_n hx hb dX11_takeNumber_133 rfl (lv_at hl 0 rfl) ?_
  refine r_gI C hS fl_X11_151 rfl rfl dX11_takeNumber_134 ?_
  refine lv_isub hx hb dX11_takeNumber_137 ?_
  refine lv_iconst (v := 3) hx hb dX11_takeNumber_138 (by decide) ?_
  refine lv_icmp_gt (tgt := 157) hx hb dX11_takeNumber_139 (by decide) (fun c_27 => ?_) (fun c_27 => ?_)
  · replace h := ifp c_27 h
    exact w_Mod_takeNumber_J157 C hr hlk F  M  q h _ _ _ hS (lv_sub hl [0] rfl)
  · replace h := ifn c_27 h
    refine lv_aload_n hx hb dX11_takeNumber_142 rfl (lv_at hl 0 rfl) ?_
    refine r_gI C hS fl_X11_154 rfl rfl dX11_takeNumber_143 ?_
    refine lv_i2l (v := (M.1 63 29).toInt64) hx hb dX11_takeNumber_146 rfl ?_
    refine lv_iload_n hx hb dX11_takeNumber_147 rfl (lv_at hl 1 rfl) ?_
    refine lv_i2l (v := x1.toInt64) hx hb dX11_takeNumber_148 rfl ?_
    refine lv_iload_n hx hb dX11_takeNumber_149 rfl (lv_at hl 2 rfl) ?_
    refine lv_i2l (v := x2.toInt64) hx hb dX11_takeNumber_150 rfl ?_
    obtain ⟨⟨r_31, M_32⟩, hq_33, h⟩ := ob h
    try dsimp only at h
    refine r_thenI hS (r_runS C hS hl.1 cs_X11_123 (c_X11_in l G F ((M.1 63 29).toInt64) x1.toInt64 x2.toInt64 M  _ hq_33) ⟨by decide, by decide⟩ rfl rfl (Nat.le_of_ble_eq_true rfl) ⟨Nat.zero_le _, Nat.zero_le _⟩ dX11_takeNumber_151) (fun H locs hS => ?_)
    refine lv_if_ne (tgt := 169) hx hb dX11_takeNumber_154 (by decide) (fun c_34 => ?_) (fun c_34 => ?_)
    · replace h := ifn c_34 h
      refine lv_iconst (v := 0) hx hb dX11_takeNumber_169 (by decide) ?_
      exact r_iret C hS hr hlk h dX11_takeNumber_170
    · replace h := ifp c_34 h
      exact w_Mod_takeNumber_J157 C hr hlk F  M_32  q h _ _ _ hS (lv_sub hl [0] rfl)
set_option maxHeartbeats 4000000 in
set_option maxRecDepth 100000 in
theorem c_X11_takeNumber (l : Launch) (G : Gl) (F : Nat) (x1 : Int32) (x2 : Int32) (M : zM)  (q : Int32 × zM) (h : Mod_takeNumber F x1 x2 M = some q) : Met l yX11_takeNumber (wsM yX11_takeNumber cX11_takeNumber 4 (some .int)) (rmM 1 25) (Pre G M [.ref (G.1 + 63), .int x1, .int x2]) (PoI G q) 0 0 (gA G) := by
  refine r_met (own := RX11) rfl (by decide) (Nat.le_of_ble_eq_true rfl) ?_
  intro p e s m below meth c ls C hr hlk hS hl
  have hl : lv_has ls 4 [(0, .ref (G.1 + 63)), (1, .int x1), (2, .int x2)] := hl
  obtain ⟨hx, hb, -⟩ := id C
  unfold Mod_takeNumber at h
  refine lv_aload_n hx hb dX11_takeNumber_0 rfl (lv_at hl 0 rfl) ?_
  obtain ⟨⟨r_1, M_2⟩, hq_3, h⟩ := ob h
  try dsimp only at h
  refine r_thenI hS (r_runV C hS hl.1 cv_X11_139 rfl (c_X11_here l G F  M  _ hq_3) ⟨by decide, by decide⟩ rfl rfl (Nat.le_of_ble_eq_true rfl) ⟨Nat.zero_le _, Nat.zero_le _⟩ dX11_takeNumber_1) (fun H locs hS => ?_)
  refine lv_istore_n (lv' := [(3, .int r_1), (0, .ref (G.1 + 63)), (1, .int x1), (2, .int x2)]) hx hb dX11_takeNumber_4 rfl hl (by decide) rfl (fun ls hl => ?_)
  refine lv_iload_n hx hb dX11_takeNumber_5 rfl (lv_at hl 0 rfl) ?_
  refine lv_i2l (v := r_1.toInt64) hx hb dX11_takeNumber_6 rfl ?_
  refine lv_ldc2 hx hb C.2.2.2.1 (C.2.2.2.2.1 _ tw_1076) dX11_takeNumber_7 ?_
  refine lv_ldc2 hx hb C.2.2.2.1 (C.2.2.2.2.1 _ tw_1077) dX11_takeNumber_10 ?_
  obtain ⟨⟨r_4, M_5⟩, hq_6, h⟩ := ob h
  try dsimp only at h
  refine r_thenI hS (r_runS C hS hl.1 cs_X11_123 (c_X11_in l G F r_1.toInt64 48 57 M_2  _ hq_6) ⟨by decide, by decide⟩ rfl rfl (Nat.le_of_ble_eq_true rfl) ⟨Nat.zero_le _, Nat.zero_le _⟩ dX11_takeNumber_13) (fun H locs hS => ?_)
  refine lv_if_ne (tgt := 29) hx hb dX11_takeNumber_16 (by decide) (fun c_7 => ?_) (fun c_7 => ?_)
  · replace h := ifn c_7 h
    refine lv_aload_n hx hb dX11_takeNumber_29 rfl (lv_at hl 1 rfl) ?_
    refine lv_aload_n hx hb dX11_takeNumber_30 rfl (lv_at hl 1 rfl) ?_
    refine r_gI C hS fl_X11_136 rfl rfl dX11_takeNumber_31 ?_
    obtain ⟨M_8, e_9, h⟩ := olt h
    refine r_pI C hS fp_X11_151 rfl rfl e_9 dX11_takeNumber_34 (fun H locs hS => ?_)
    refine lv_aload_n hx hb dX11_takeNumber_37 rfl (lv_at hl 1 rfl) ?_
    refine lv_iconst (v := 0) hx hb dX11_takeNumber_38 (by decide) ?_
    obtain ⟨M_10, e_11, h⟩ := olt h
    refine r_pI C hS fp_X11_154 rfl rfl e_11 dX11_takeNumber_39 (fun H locs hS => ?_)
    obtain ⟨⟨k_25, M_24⟩, hq_26, h⟩ := ob h
    try dsimp only at h
    refine loopW (E := (E_Mod_takeNumber_42 G p l e s m _ below meth c _ x1 x2)) (w_Mod_takeNumber_B42 C x1 x2 F) F _ _ hq_26 ?_ _ _ _ hS (lv_sub hl [1, 2, 3] rfl)
    by_cases ek_35 : k_25 = 1
    · replace h := ifp ek_35 h
      subst ek_35
      intro H locs ls hS hl
      exact w_Mod_takeNumber_J129 C hr hlk F x1 x2 M_24  q h _ _ _ hS (lv_sub hl [0, 1, 2] rfl)
    · replace h := ifn ek_35 h
      cases h
  · replace h := ifp c_7 h
    refine lv_aload_n hx hb dX11_takeNumber_19 rfl (lv_at hl 1 rfl) ?_
    refine lv_iconst (v := 1) hx hb dX11_takeNumber_20 (by decide) ?_
    refine lv_aload_n hx hb dX11_takeNumber_21 rfl (lv_at hl 1 rfl) ?_
    refine r_gI C hS fl_X11_136 rfl rfl dX11_takeNumber_22 ?_
    obtain ⟨⟨r_36, M_37⟩, hq_38, h⟩ := ob h
    try dsimp only at h
    refine r_thenI hS (r_runV C hS hl.1 cv_X11_147 rfl (c_X11_fails l G F 1 (M_5.1 63 18) M_5  _ hq_38) ⟨by decide, by decide⟩ rfl rfl (Nat.le_of_ble_eq_true rfl) ⟨Nat.zero_le _, Nat.zero_le _⟩ dX11_takeNumber_25) (fun H locs hS => ?_)
    exact r_iret C hS hr hlk h dX11_takeNumber_28
def E_Mod_isComing_12 (G : Gl) (p : Program) (l : Launch) (e : Env) (s : State) (m : MethodId) (args : Array Value) (below : List Frame) (meth : Method) (c : Code) (Q : State → Prop) (x1 : Int32) (x2 : Int32) (x3 : Int32) (x4 : Int32) : Nat → (Int32 × zM) → Prop := fun k (x6, M) => match k with
  | 0 => ∀ (H : Heap) (locs : List Loc) (ls : Array Slot), St G M s H locs → lv_has ls 9 [(0, .ref (G.1 + 63)), (1, .int x1), (2, .int x2), (3, .int x3), (4, .int x4), (6, .int x6)] → W p l e (rmM 1 25) s m args below meth c H locs 0 0 Q (F0 m 12 ls [])
  | 1 => ∀ (H : Heap) (locs : List Loc) (ls : Array Slot), St G M s H locs → lv_has ls 9 [(0, .ref (G.1 + 63)), (1, .int x1), (2, .int x2), (3, .int x3), (4, .int x4), (6, .int x6)] → W p l e (rmM 1 25) s m args below meth c H locs 0 0 Q (F0 m 47 ls [])
  | _ => True
set_option maxHeartbeats 4000000 in
set_option maxRecDepth 100000 in
theorem w_Mod_isComing_B12 {G : Gl} {p : Program} {l : Launch} {e : Env} {s : State} {m : MethodId} {args : Array Value} {below : List Frame} {meth : Method} {c : Code} {Q : State → Prop} (C : Cx G cX11_isComing 9 RX11 p s m args c) (x1 : Int32) (x2 : Int32) (x3 : Int32) (x4 : Int32) (F : Nat) : ∀ (σ : (Int32 × zM)) (q : Nat × (Int32 × zM)), Mod_isComing_B12 F x1 x2 x3 x4 σ = some q → (E_Mod_isComing_12 G p l e s m args below meth c Q x1 x2 x3 x4) q.1 q.2 → (E_Mod_isComing_12 G p l e s m args below meth c Q x1 x2 x3 x4) 0 σ := by
  intro (x6, M) q h hE H locs ls hS hl
  obtain ⟨hx, hb, -⟩ := id C
  unfold Mod_isComing_B12 at h
  try dsimp only at h
  refine lv_iload hx hb dX11_isComing_12 (lv_at hl 5 rfl) ?_
  refine lv_aload_n hx hb dX11_isComing_14 rfl (lv_at hl 0 rfl) ?_
  refine r_gI C hS fl_X11_131 rfl rfl dX11_isComing_15 ?_
  refine lv_icmp_ge (tgt := 47) hx hb dX11_isComing_18 (by decide) (fun c_6 => ?_) (fun c_6 => ?_)
  · replace h := ifp c_6 h
    obtain rfl := Option.some.inj h
    exact hE _ _ _ hS (lv_sub hl [0, 1, 2, 3, 4, 5] rfl)
  · replace h := ifn c_6 h
    refine lv_aload_n hx hb dX11_isComing_21 rfl (lv_at hl 0 rfl) ?_
    refine r_gR C hS fl_X11_57 rfl rfl rfl dX11_isComing_22 ?_
    refine lv_iload hx hb dX11_isComing_25 (lv_at hl 5 rfl) ?_
    obtain ⟨b_7, h⟩ := ift h
    refine r_iald C hS rfl rfl b_7 dX11_isComing_27 ?_
    refine lv_i2l (v := (M.1 79 x6.toNatClampNeg).toInt64) hx hb dX11_isComing_28 rfl ?_
    refine lv_ldc2 hx hb C.2.2.2.1 (C.2.2.2.2.1 _ tw_1062) dX11_isComing_29 ?_
    refine lv_ldc2 hx hb C.2.2.2.1 (C.2.2.2.2.1 _ tw_1063) dX11_isComing_32 ?_
    obtain ⟨⟨r_8, M_9⟩, hq_10, h⟩ := ob h
    try dsimp only at h
    refine r_thenI hS (r_runS C hS hl.1 cs_X11_123 (c_X11_in l G F ((M.1 79 x6.toNatClampNeg).toInt64) 97 122 M  _ hq_10) ⟨by decide, by decide⟩ rfl rfl (Nat.le_of_ble_eq_true rfl) ⟨Nat.zero_le _, Nat.zero_le _⟩ dX11_isComing_35) (fun H locs hS => ?_)
    refine lv_if_eq (tgt := 47) hx hb dX11_isComing_38 (by decide) (fun c_11 => ?_) (fun c_11 => ?_)
    · replace h := ifp c_11 h
      obtain rfl := Option.some.inj h
      exact hE _ _ _ hS (lv_sub hl [0, 1, 2, 3, 4, 5] rfl)
    · replace h := ifn c_11 h
      obtain ⟨x6_12, e_13, h⟩ := olt h
      refine lv_iinc (v := x6_12) (lv' := [(6, .int x6_12), (0, .ref (G.1 + 63)), (1, .int x1), (2, .int x2), (3, .int x3), (4, .int x4)]) hx hb dX11_isComing_41 hl (k := 5) rfl (by rw [e_13]; rfl) (by decide) rfl (fun ls hl => ?_)
      refine lv_goto (tgt := 12) hx hb dX11_isComing_44 (by decide) ?_
      obtain rfl := Option.some.inj h
      exact hE _ _ _ hS (lv_sub hl [1, 2, 3, 4, 5, 0] rfl)
set_option maxHeartbeats 4000000 in
set_option maxRecDepth 100000 in
theorem w_Mod_isComing_J161 {G : Gl} {p : Program} {l : Launch} {e : Env} {s : State} {m : MethodId} {args : Array Value} {below : List Frame} {meth : Method} {c : Code} (C : Cx G cX11_isComing 9 RX11 p s m args c) (hr : meth.sig.returnType = (some .boolean)) (hlk : meth.locks = false) (F : Nat) (x4 : Int32) (y0 : Int32) (M : zM)  (q : Int32 × zM) (h : Mod_isComing_J161 F x4 y0 M = some q) (H : Heap) (locs : List Loc) (ls : Array Slot) (hS : St G M s H locs) (hl : lv_has ls 9 [(0, .ref (G.1 + 63)), (4, .int x4)]) : W p l e (rmM 1 25) s m args below meth c H locs 0 0 (MQ below (PoI G q) args s 0 0 (gA G)) (F0 m 161 ls [.int y0]) := by
  obtain ⟨hx, hb, -⟩ := id C
  unfold Mod_isComing_J161 at h
  refine lv_istore (lv' := [(8, .int y0), (0, .ref (G.1 + 63)), (4, .int x4)]) hx hb dX11_isComing_161 hl (by decide) rfl (fun ls hl => ?_)
  refine lv_iload hx hb dX11_isComing_163 (lv_at hl 0 rfl) ?_
  refine lv_if_eq (tgt := 193) hx hb dX11_isComing_165 (by decide) (fun c_25 => ?_) (fun c_25 => ?_)
  · replace h := ifp c_25 h
    refine lv_iconst (v := 0) hx hb dX11_isComing_193 (by decide) ?_
    exact r_zret C hS hr hlk h dX11_isComing_194
  · replace h := ifn c_25 h
    refine lv_iload hx hb dX11_isComing_168 (lv_at hl 2 rfl) ?_
    refine lv_if_eq (tgt := 189) hx hb dX11_isComing_170 (by decide) (fun c_26 => ?_) (fun c_26 => ?_)
    · replace h := ifp c_26 h
      refine lv_iconst (v := 1) hx hb dX11_isComing_189 (by decide) ?_
      refine lv_goto (tgt := 194) hx hb dX11_isComing_190 (by decide) ?_
      exact r_zret C hS hr hlk h dX11_isComing_194
    · replace h := ifn c_26 h
      refine lv_aload_n hx hb dX11_isComing_173 rfl (lv_at hl 1 rfl) ?_
      refine r_gR C hS fl_X11_57 rfl rfl rfl dX11_isComing_174 ?_
      refine lv_aload_n hx hb dX11_isComing_177 rfl (lv_at hl 1 rfl) ?_
      refine r_gI C hS fl_X11_136 rfl rfl dX11_isComing_178 ?_
      refine lv_iconst (v := 3) hx hb dX11_isComing_181 (by decide) ?_
      refine lv_iadd hx hb dX11_isComing_182 ?_
      obtain ⟨b_27, h⟩ := ift h
      refine r_iald C hS rfl rfl b_27 dX11_isComing_183 ?_
      refine lv_iload hx hb dX11_isComing_184 (lv_at hl 2 rfl) ?_
      refine lv_icmp_ne (tgt := 193) hx hb dX11_isComing_186 (by decide) (fun c_28 => ?_) (fun c_28 => ?_)
      · replace h := ifn c_28 h
        refine lv_iconst (v := 0) hx hb dX11_isComing_193 (by decide) ?_
        exact r_zret C hS hr hlk h dX11_isComing_194
      · replace h := ifp c_28 h
        refine lv_iconst (v := 1) hx hb dX11_isComing_189 (by decide) ?_
        refine lv_goto (tgt := 194) hx hb dX11_isComing_190 (by decide) ?_
        exact r_zret C hS hr hlk h dX11_isComing_194
set_option maxHeartbeats 4000000 in
set_option maxRecDepth 100000 in
theorem w_Mod_isComing_J160 {G : Gl} {p : Program} {l : Launch} {e : Env} {s : State} {m : MethodId} {args : Array Value} {below : List Frame} {meth : Method} {c : Code} (C : Cx G cX11_isComing 9 RX11 p s m args c) (hr : meth.sig.returnType = (some .boolean)) (hlk : meth.locks = false) (F : Nat) (x4 : Int32) (M : zM)  (q : Int32 × zM) (h : Mod_isComing_J160 F x4 M = some q) (H : Heap) (locs : List Loc) (ls : Array Slot) (hS : St G M s H locs) (hl : lv_has ls 9 [(0, .ref (G.1 + 63)), (4, .int x4)]) : W p l e (rmM 1 25) s m args below meth c H locs 0 0 (MQ below (PoI G q) args s 0 0 (gA G)) (F0 m 160 ls []) := by
  obtain ⟨hx, hb, -⟩ := id C
  unfold Mod_isComing_J160 at h
  refine lv_iconst (v := 0) hx hb dX11_isComing_160 (by decide) ?_
  exact w_Mod_isComing_J161 C hr hlk F x4 0 M  q h _ _ _ hS (lv_sub hl [0, 1] rfl)
set_option maxHeartbeats 4000000 in
set_option maxRecDepth 100000 in
theorem w_Mod_isComing_J156 {G : Gl} {p : Program} {l : Launch} {e : Env} {s : State} {m : MethodId} {args : Array Value} {below : List Frame} {meth : Method} {c : Code} (C : Cx G cX11_isComing 9 RX11 p s m args c) (hr : meth.sig.returnType = (some .boolean)) (hlk : meth.locks = false) (F : Nat) (x4 : Int32) (M : zM)  (q : Int32 × zM) (h : Mod_isComing_J156 F x4 M = some q) (H : Heap) (locs : List Loc) (ls : Array Slot) (hS : St G M s H locs) (hl : lv_has ls 9 [(0, .ref (G.1 + 63)), (4, .int x4)]) : W p l e (rmM 1 25) s m args below meth c H locs 0 0 (MQ below (PoI G q) args s 0 0 (gA G)) (F0 m 156 ls []) := by
  obtain ⟨hx, hb, -⟩ := id C
  unfold Mod_isComing_J156 at h
  refine lv_iconst (v := 1) hx hb dX11_isComing_156 (by decide) ?_
  refine lv_goto (tgt := 161) hx hb dX11_isComing_157 (by decide) ?_
  exact w_Mod_isComing_J161 C hr hlk F x4 1 M  q h _ _ _ hS (lv_sub hl [0, 1] rfl)
set_option maxHeartbeats 4000000 in
set_option maxRecDepth 100000 in
theorem w_Mod_isComing_J130 {G : Gl} {p : Program} {l : Launch} {e : Env} {s : State} {m : MethodId} {args : Array Value} {below : List Frame} {meth : Method} {c : Code} (C : Cx G cX11_isComing 9 RX11 p s m args c) (hr : meth.sig.returnType = (some .boolean)) (hlk : meth.locks = false) (F : Nat) (x3 : Int32) (x4 : Int32) (y0 : Int32) (M : zM)  (q : Int32 × zM) (h : Mod_isComing_J130 F x3 x4 y0 M = some q) (H : Heap) (locs : List Loc) (ls : Array Slot) (hS : St G M s H locs) (hl : lv_has ls 9 [(0, .ref (G.1 + 63)), (3, .int x3), (4, .int x4)]) : W p l e (rmM 1 25) s m args below meth c H locs 0 0 (MQ below (PoI G q) args s 0 0 (gA G)) (F0 m 130 ls [.int y0]) := by
  obtain ⟨hx, hb, -⟩ := id C
  unfold Mod_isComing_J130 at h
  refine lv_istore (lv' := [(8, .int y0), (0, .ref (G.1 + 63)), (3, .int x3), (4, .int x4)]) hx hb dX11_isComing_130 hl (by decide) rfl (fun ls hl => ?_)
  refine lv_iload hx hb dX11_isComing_132 (lv_at hl 0 rfl) ?_
  refine lv_if_eq (tgt := 160) hx hb dX11_isComing_134 (by decide) (fun c_24 => ?_) (fun c_24 => ?_)
  · replace h := ifp c_24 h
    exact w_Mod_isComing_J160 C hr hlk F x4 M  q h _ _ _ hS (lv_sub hl [1, 3] rfl)
  · replace h := ifn c_24 h
    refine lv_iload_n hx hb dX11_isComing_137 rfl (lv_at hl 2 rfl) ?_
    refine lv_if_eq (tgt := 156) hx hb dX11_isComing_138 (by decide) (fun c_29 => ?_) (fun c_29 => ?_)
    · replace h := ifp c_29 h
      exact w_Mod_isComing_J156 C hr hlk F x4 M  q h _ _ _ hS (lv_sub hl [1, 3] rfl)
    · replace h := ifn c_29 h
      refine lv_aload_n hx hb dX11_isComing_141 rfl (lv_at hl 1 rfl) ?_
      refine r_gR C hS fl_X11_57 rfl rfl rfl dX11_isComing_142 ?_
      refine lv_aload_n hx hb dX11_isComing_145 rfl (lv_at hl 1 rfl) ?_
      refine r_gI C hS fl_X11_136 rfl rfl dX11_isComing_146 ?_
      refine lv_iconst (v := 2) hx hb dX11_isComing_149 (by decide) ?_
      refine lv_iadd hx hb dX11_isComing_150 ?_
      obtain ⟨b_30, h⟩ := ift h
      refine r_iald C hS rfl rfl b_30 dX11_isComing_151 ?_
      refine lv_iload_n hx hb dX11_isComing_152 rfl (lv_at hl 2 rfl) ?_
      refine lv_icmp_ne (tgt := 160) hx hb dX11_isComing_153 (by decide) (fun c_31 => ?_) (fun c_31 => ?_)
      · replace h := ifn c_31 h
        exact w_Mod_isComing_J160 C hr hlk F x4 M  q h _ _ _ hS (lv_sub hl [1, 3] rfl)
      · replace h := ifp c_31 h
        exact w_Mod_isComing_J156 C hr hlk F x4 M  q h _ _ _ hS (lv_sub hl [1, 3] rfl)
set_option maxHeartbeats 4000000 in
set_option maxRecDepth 100000 in
theorem w_Mod_isComing_J129 {G : Gl} {p : Program} {l : Launch} {e : Env} {s : State} {m : MethodId} {args : Array Value} {below : List Frame} {meth : Method} {c : Code} (C : Cx G cX11_isComing 9 RX11 p s m args c) (hr : meth.sig.returnType = (some .boolean)) (hlk : meth.locks = false) (F : Nat) (x3 : Int32) (x4 : Int32) (M : zM)  (q : Int32 × zM) (h : Mod_isComing_J129 F x3 x4 M = some q) (H : Heap) (locs : List Loc) (ls : Array Slot) (hS : St G M s H locs) (hl : lv_has ls 9 [(0, .ref (G.1 + 63)), (3, .int x3), (4, .int x4)]) : W p l e (rmM 1 25) s m args below meth c H locs 0 0 (MQ below (PoI G q) args s 0 0 (gA G)) (F0 m 129 ls []) := by
  obtain ⟨hx, hb, -⟩ := id C
  unfold Mod_isComing_J129 at h
  refine lv_iconst (v := 0) hx hb dX11_isComing_129 (by decide) ?_
  exact w_Mod_isComing_J130 C hr hlk F x3 x4 0 M  q h _ _ _ hS (lv_sub hl [0, 1, 2] rfl)
set_option maxHeartbeats 4000000 in
set_option maxRecDepth 100000 in
theorem w_Mod_isComing_J90 {G : Gl} {p : Program} {l : Launch} {e : Env} {s : State} {m : MethodId} {args : Array Value} {below : List Frame} {meth : Method} {c : Code} (C : Cx G cX11_isComing 9 RX11 p s m args c) (hr : meth.sig.returnType = (some .boolean)) (hlk : meth.locks = false) (F : Nat) (x1 : Int32) (x2 : Int32) (x3 : Int32) (x4 : Int32) (y0 : Int32) (M : zM)  (q : Int32 × zM) (h : Mod_isComing_J90 F x1 x2 x3 x4 y0 M = some q) (H : Heap) (locs : List Loc) (ls : Array Slot) (hS : St G M s H locs) (hl : lv_has ls 9 [(0, .ref (G.1 + 63)), (1, .int x1), (2, .int x2), (3, .int x3), (4, .int x4)]) : W p l e (rmM 1 25) s m args below meth c H locs 0 0 (MQ below (PoI G q) args s 0 0 (gA G)) (F0 m 90 ls [.int y0]) := by
  obtain ⟨hx, hb, -⟩ := id C
  unfold Mod_isComing_J90 at h
  refine lv_istore (lv' := [(8, .int y0), (0, .ref (G.1 + 63)), (1, .int x1), (2, .int x2), (3, .int x3), (4, .int x4)]) hx hb dX11_isComing_90 hl (by decide) rfl (fun ls hl => ?_)
  refine lv_iload hx hb dX11_isComing_92 (lv_at hl 0 rfl) ?_
  refine lv_if_eq (tgt := 129) hx hb dX11_isComing_94 (by decide) (fun c_23 => ?_) (fun c_23 => ?_)
  · replace h := ifp c_23 h
    exact w_Mod_isComing_J129 C hr hlk F x3 x4 M  q h _ _ _ hS (lv_sub hl [1, 4, 5] rfl)
  · replace h := ifn c_23 h
    refine lv_aload_n hx hb dX11_isComing_97 rfl (lv_at hl 1 rfl) ?_
    refine r_gR C hS fl_X11_57 rfl rfl rfl dX11_isComing_98 ?_
    refine lv_aload_n hx hb dX11_isComing_101 rfl (lv_at hl 1 rfl) ?_
    refine r_gI C hS fl_X11_136 rfl rfl dX11_isComing_102 ?_
    obtain ⟨b_32, h⟩ := ift h
    refine r_iald C hS rfl rfl b_32 dX11_isComing_105 ?_
    refine lv_iload_n hx hb dX11_isComing_106 rfl (lv_at hl 2 rfl) ?_
    refine lv_icmp_ne (tgt := 129) hx hb dX11_isComing_107 (by decide) (fun c_33 => ?_) (fun c_33 => ?_)
    · replace h := ifn c_33 h
      exact w_Mod_isComing_J129 C hr hlk F x3 x4 M  q h _ _ _ hS (lv_sub hl [1, 4, 5] rfl)
    · replace h := ifp c_33 h
      refine lv_aload_n hx hb dX11_isComing_110 rfl (lv_at hl 1 rfl) ?_
      refine r_gR C hS fl_X11_57 rfl rfl rfl dX11_isComing_111 ?_
      refine lv_aload_n hx hb dX11_isComing_114 rfl (lv_at hl 1 rfl) ?_
      refine r_gI C hS fl_X11_136 rfl rfl dX11_isComing_115 ?_
      refine lv_iconst (v := 1) hx hb dX11_isComing_118 (by decide) ?_
      refine lv_iadd hx hb dX11_isComing_119 ?_
      obtain ⟨b_34, h⟩ := ift h
      refine r_iald C hS rfl rfl b_34 dX11_isComing_120 ?_
      refine lv_iload_n hx hb dX11_isComing_121 rfl (lv_at hl 3 rfl) ?_
      refine lv_icmp_ne (tgt := 129) hx hb dX11_isComing_122 (by decide) (fun c_35 => ?_) (fun c_35 => ?_)
      · replace h := ifn c_35 h
        exact w_Mod_isComing_J129 C hr hlk F x3 x4 M  q h _ _ _ hS (lv_sub hl [1, 4, 5] rfl)
      · replace h := ifp c_35 h
        refine lv_iconst (v := 1) hx hb dX11_isComing_125 (by decide) ?_
        refine lv_goto (tgt := 130) hx hb dX11_isComing_126 (by decide) ?_
        exact w_Mod_isComing_J130 C hr hlk F x3 x4 1 M  q h _ _ _ hS (lv_sub hl [1, 4, 5] rfl)
set_option maxHeartbeats 4000000 in
set_option maxRecDepth 100000 in
theorem w_Mod_isComing_J71 {G : Gl} {p : Program} {l : Launch} {e : Env} {s : State} {m : MethodId} {args : Array Value} {below : List Frame} {meth : Method} {c : Code} (C : Cx G cX11_isComing 9 RX11 p s m args c) (hr : meth.sig.returnType = (some .boolean)) (hlk : meth.locks = false) (F : Nat) (x1 : Int32) (x2 : Int32) (x3 : Int32) (x4 : Int32) (x6 : Int32) (y0 : Int32) (M : zM)  (q : Int32 × zM) (h : Mod_isComing_J71 F x1 x2 x3 x4 x6 y0 M = some q) (H : Heap) (locs : List Loc) (ls : Array Slot) (hS : St G M s H locs) (hl : lv_has ls 9 [(0, .ref (G.1 + 63)), (1, .int x1), (2, .int x2), (3, .int x3), (4, .int x4), (6, .int x6)]) : W p l e (rmM 1 25) s m args below meth c H locs 0 0 (MQ below (PoI G q) args s 0 0 (gA G)) (F0 m 71 ls [.int y0]) := by
  obtain ⟨hx, hb, -⟩ := id C
  unfold Mod_isComing_J71 at h
  refine lv_istore (lv' := [(7, .int y0), (0, .ref (G.1 + 63)), (1, .int x1), (2, .int x2), (3, .int x3), (4, .int x4), (6, .int x6)]) hx hb dX11_isComing_71 hl (by decide) rfl (fun ls hl => ?_)
  refine lv_iload hx hb dX11_isComing_73 (lv_at hl 6 rfl) ?_
  refine lv_aload_n hx hb dX11_isComing_75 rfl (lv_at hl 1 rfl) ?_
  refine r_gI C hS fl_X11_136 rfl rfl dX11_isComing_76 ?_
  refine lv_isub hx hb dX11_isComing_79 ?_
  refine lv_iload hx hb dX11_isComing_80 (lv_at hl 0 rfl) ?_
  refine lv_icmp_ne (tgt := 89) hx hb dX11_isComing_82 (by decide) (fun c_22 => ?_) (fun c_22 => ?_)
  · replace h := ifn c_22 h
    refine lv_iconst (v := 0) hx hb dX11_isComing_89 (by decide) ?_
    exact w_Mod_isComing_J90 C hr hlk F x1 x2 x3 x4 0 M  q h _ _ _ hS (lv_sub hl [1, 2, 3, 4, 5] rfl)
  · replace h := ifp c_22 h
    refine lv_iconst (v := 1) hx hb dX11_isComing_85 (by decide) ?_
    refine lv_goto (tgt := 90) hx hb dX11_isComing_86 (by decide) ?_
    exact w_Mod_isComing_J90 C hr hlk F x1 x2 x3 x4 1 M  q h _ _ _ hS (lv_sub hl [1, 2, 3, 4, 5] rfl)
set_option maxHeartbeats 4000000 in
set_option maxRecDepth 100000 in
theorem w_Mod_isComing_J47 {G : Gl} {p : Program} {l : Launch} {e : Env} {s : State} {m : MethodId} {args : Array Value} {below : List Frame} {meth : Method} {c : Code} (C : Cx G cX11_isComing 9 RX11 p s m args c) (hr : meth.sig.returnType = (some .boolean)) (hlk : meth.locks = false) (F : Nat) (x1 : Int32) (x2 : Int32) (x3 : Int32) (x4 : Int32) (x6 : Int32) (M : zM)  (q : Int32 × zM) (h : Mod_isComing_J47 F x1 x2 x3 x4 x6 M = some q) (H : Heap) (locs : List Loc) (ls : Array Slot) (hS : St G M s H locs) (hl : lv_has ls 9 [(0, .ref (G.1 + 63)), (1, .int x1), (2, .int x2), (3, .int x3), (4, .int x4), (6, .int x6)]) : W p l e (rmM 1 25) s m args below meth c H locs 0 0 (MQ below (PoI G q) args s 0 0 (gA G)) (F0 m 47 ls []) := by
  obtain ⟨hx, hb, -⟩ := id C
  unfold Mod_isComing_J47 at h
  refine lv_aload_n hx hb dX11_isComing_47 rfl (lv_at hl 0 rfl) ?_
  refine lv_iload hx hb dX11_isComing_48 (lv_at hl 5 rfl) ?_
  obtain ⟨M_18, e_19, h⟩ := olt h
  refine r_pI C hS fp_X11_161 rfl rfl e_19 dX11_isComing_50 (fun H locs hS => ?_)
  refine lv_iload hx hb dX11_isComing_53 (lv_at hl 4 rfl) ?_
  refine lv_if_le (tgt := 62) hx hb dX11_isComing_55 (by decide) (fun c_20 => ?_) (fun c_20 => ?_)
  · replace h := ifp c_20 h
    refine lv_iload_n hx hb dX11_isComing_62 rfl (lv_at hl 3 rfl) ?_
    refine lv_if_le (tgt := 70) hx hb dX11_isComing_63 (by decide) (fun c_21 => ?_) (fun c_21 => ?_)
    · replace h := ifp c_21 h
      refine lv_iconst (v := 2) hx hb dX11_isComing_70 (by decide) ?_
      exact w_Mod_isComing_J71 C hr hlk F x1 x2 x3 x4 x6 2 M_18  q h _ _ _ hS (lv_sub hl [0, 1, 2, 3, 4, 5] rfl)
    · replace h := ifn c_21 h
      refine lv_iconst (v := 3) hx hb dX11_isComing_66 (by decide) ?_
      refine lv_goto (tgt := 71) hx hb dX11_isComing_67 (by decide) ?_
      exact w_Mod_isComing_J71 C hr hlk F x1 x2 x3 x4 x6 3 M_18  q h _ _ _ hS (lv_sub hl [0, 1, 2, 3, 4, 5] rfl)
  · replace h := ifn c_20 h
    refine lv_iconst (v := 4) hx hb dX11_isComing_58 (by decide) ?_
    refine lv_goto (tgt := 71) hx hb dX11_isComing_59 (by decide) ?_
    exact w_Mod_isComing_J71 C hr hlk F x1 x2 x3 x4 x6 4 M_18  q h _ _ _ hS (lv_sub hl [0, 1, 2, 3, 4, 5] rfl)
set_option maxHeartbeats 4000000 in
set_option maxRecDepth 100000 in
theorem c_X11_isComing (l : Launch) (G : Gl) (F : Nat) (x1 : Int32) (x2 : Int32) (x3 : Int32) (x4 : Int32) (M : zM)  (q : Int32 × zM) (h : Mod_isComing F x1 x2 x3 x4 M = some q) : Met l yX11_isComing (wsM yX11_isComing cX11_isComing 9 (some .boolean)) (rmM 1 25) (Pre G M [.ref (G.1 + 63), .int x1, .int x2, .int x3, .int x4]) (PoI G q) 0 0 (gA G) := by
  refine r_met (own := RX11) rfl (by decide) (Nat.le_of_ble_eq_true rfl) ?_
  intro p e s m below meth c ls C hr hlk hS hl
  have hl : lv_has ls 9 [(0, .ref (G.1 + 63)), (1, .int x1), (2, .int x2), (3, .int x3), (4, .int x4)] := hl
  obtain ⟨hx, hb, -⟩ := id C
  unfold Mod_isComing at h
  refine lv_aload_n hx hb dX11_isComing_0 rfl (lv_at hl 0 rfl) ?_
  obtain ⟨⟨r_1, M_2⟩, hq_3, h⟩ := ob h
  try dsimp only at h
  refine r_thenI hS (r_runV C hS hl.1 cv_X11_139 rfl (c_X11_here l G F  M  _ hq_3) ⟨by decide, by decide⟩ rfl rfl (Nat.le_of_ble_eq_true rfl) ⟨Nat.zero_le _, Nat.zero_le _⟩ dX11_isComing_1) (fun H locs hS => ?_)
  refine lv_istore (lv' := [(5, .int r_1), (0, .ref (G.1 + 63)), (1, .int x1), (2, .int x2), (3, .int x3), (4, .int x4)]) hx hb dX11_isComing_4 hl (by decide) rfl (fun ls hl => ?_)
  refine lv_aload_n hx hb dX11_isComing_6 rfl (lv_at hl 1 rfl) ?_
  refine r_gI C hS fl_X11_136 rfl rfl dX11_isComing_7 ?_
  obtain ⟨x6_4, e_5, h⟩ := olt h
  refine r_nI e_5 ?_
  refine lv_istore (lv' := [(6, .int x6_4), (5, .int r_1), (0, .ref (G.1 + 63)), (1, .int x1), (2, .int x2), (3, .int x3), (4, .int x4)]) hx hb dX11_isComing_10 hl (by decide) rfl (fun ls hl => ?_)
  obtain ⟨⟨k_16, x6_14, M_15⟩, hq_17, h⟩ := ob h
  try dsimp only at h
  refine loopW (E := (E_Mod_isComing_12 G p l e s m _ below meth c _ x1 x2 x3 x4)) (w_Mod_isComing_B12 C x1 x2 x3 x4 F) F _ _ hq_17 ?_ _ _ _ hS (lv_sub hl [2, 3, 4, 5, 6, 0] rfl)
  by_cases ek_36 : k_16 = 1
  · replace h := ifp ek_36 h
    subst ek_36
    intro H locs ls hS hl
    exact w_Mod_isComing_J47 C hr hlk F x1 x2 x3 x4 x6_14 M_15  q h _ _ _ hS (lv_sub hl [0, 1, 2, 3, 4, 5] rfl)
  · replace h := ifn ek_36 h
    cases h
set_option maxHeartbeats 4000000 in
set_option maxRecDepth 100000 in
theorem c_X11_needs (l : Launch) (G : Gl) (F : Nat) (x1 : Int32) (x2 : Int32) (M : zM)  (q : Int32 × zM) (h : Mod_needs F x1 x2 M = some q) : Met l yX11_needs (wsM yX11_needs cX11_needs 3 (some .int)) (rmM 2 53) (Pre G M [.ref (G.1 + 63), .int x1, .int x2]) (PoI G q) 0 0 (gA G) := by
  refine r_met (own := RX11) rfl (by decide) (Nat.le_of_ble_eq_true rfl) ?_
  intro p e s m below meth c ls C hr hlk hS hl
  have hl : lv_has ls 3 [(0, .ref (G.1 + 63)), (1, .int x1), (2, .int x2)] := hl
  obtain ⟨hx, hb, -⟩ := id C
  unfold Mod_needs at h
  refine lv_aload_n hx hb dX11_needs_0 rfl (lv_at hl 0 rfl) ?_
  refine lv_iload_n hx hb dX11_needs_1 rfl (lv_at hl 1 rfl) ?_
  refine lv_iload_n hx hb dX11_needs_2 rfl (lv_at hl 2 rfl) ?_
  refine lv_iconst (v := 0) hx hb dX11_needs_3 (by decide) ?_
  refine lv_iconst (v := 0) hx hb dX11_needs_4 (by decide) ?_
  obtain ⟨⟨r_1, M_2⟩, hq_3, h⟩ := ob h
  try dsimp only at h
  refine r_thenI hS (r_runV C hS hl.1 cv_X11_164 rfl (c_X11_isComing l G F x1 x2 0 0 M  _ hq_3) ⟨by decide, by decide⟩ rfl rfl (Nat.le_of_ble_eq_true rfl) ⟨Nat.zero_le _, Nat.zero_le _⟩ dX11_needs_5) (fun H locs hS => ?_)
  refine lv_if_ne (tgt := 21) hx hb dX11_needs_8 (by decide) (fun c_4 => ?_) (fun c_4 => ?_)
  · replace h := ifn c_4 h
    refine lv_aload_n hx hb dX11_needs_21 rfl (lv_at hl 0 rfl) ?_
    refine lv_aload_n hx hb dX11_needs_22 rfl (lv_at hl 0 rfl) ?_
    refine r_gI C hS fl_X11_161 rfl rfl dX11_needs_23 ?_
    obtain ⟨M_5, e_6, h⟩ := olt h
    refine r_pI C hS fp_X11_136 rfl rfl e_6 dX11_needs_26 (fun H locs hS => ?_)
    refine lv_iconst (v := 0) hx hb dX11_needs_29 (by decide) ?_
    exact r_iret C hS hr hlk h dX11_needs_30
  · replace h := ifp c_4 h
    refine lv_aload_n hx hb dX11_needs_11 rfl (lv_at hl 0 rfl) ?_
    refine lv_iconst (v := 1) hx hb dX11_needs_12 (by decide) ?_
    refine lv_aload_n hx hb dX11_needs_13 rfl (lv_at hl 0 rfl) ?_
    refine r_gI C hS fl_X11_136 rfl rfl dX11_needs_14 ?_
    obtain ⟨⟨r_7, M_8⟩, hq_9, h⟩ := ob h
    try dsimp only at h
    refine r_thenI hS (r_runV C hS hl.1 cv_X11_147 rfl (c_X11_fails l G F 1 (M_2.1 63 18) M_2  _ hq_9) ⟨by decide, by decide⟩ rfl rfl (Nat.le_of_ble_eq_true rfl) ⟨Nat.zero_le _, Nat.zero_le _⟩ dX11_needs_17) (fun H locs hS => ?_)
    exact r_iret C hS hr hlk h dX11_needs_20
def E_Mod_takeLetters_43 (G : Gl) (p : Program) (l : Launch) (e : Env) (s : State) (m : MethodId) (args : Array Value) (below : List Frame) (meth : Method) (c : Code) (Q : State → Prop) (x1 : Int32) : Nat → zM → Prop := fun k (M) => match k with
  | 0 => ∀ (H : Heap) (locs : List Loc) (ls : Array Slot), St G M s H locs → lv_has ls 3 [(0, .ref (G.1 + 63)), (1, .int x1)] → W p l e (rmM 1 25) s m args below meth c H locs 0 0 Q (F0 m 43 ls [])
  | 1 => ∀ (H : Heap) (locs : List Loc) (ls : Array Slot), St G M s H locs → lv_has ls 3 [(0, .ref (G.1 + 63))] → W p l e (rmM 1 25) s m args below meth c H locs 0 0 Q (F0 m 87 ls [])
  | 2 => ∀ (H : Heap) (locs : List Loc) (ls : Array Slot), St G M s H locs → lv_has ls 3 [] → W p l e (rmM 1 25) s m args below meth c H locs 0 0 Q (F0 m 145 ls [])
  | _ => True
set_option maxHeartbeats 4000000 in
set_option maxRecDepth 100000 in
theorem w_Mod_takeLetters_B43 {G : Gl} {p : Program} {l : Launch} {e : Env} {s : State} {m : MethodId} {args : Array Value} {below : List Frame} {meth : Method} {c : Code} {Q : State → Prop} (C : Cx G cX11_takeLetters 3 RX11 p s m args c) (x1 : Int32) (F : Nat) : ∀ (σ : zM) (q : Nat × zM), Mod_takeLetters_B43 F x1 σ = some q → (E_Mod_takeLetters_43 G p l e s m args below meth c Q x1) q.1 q.2 → (E_Mod_takeLetters_43 G p l e s m args below meth c Q x1) 0 σ := by
  intro (M) q h hE H locs ls hS hl
  obtain ⟨hx, hb, -⟩ := id C
  unfold Mod_takeLetters_B43 at h
  try dsimp only at h
  refine lv_aload_n hx hb dX11_takeLetters_43 rfl (lv_at hl 0 rfl) ?_
  refine r_gI C hS fl_X11_136 rfl rfl dX11_takeLetters_44 ?_
  refine lv_aload_n hx hb dX11_takeLetters_47 rfl (lv_at hl 0 rfl) ?_
  refine r_gI C hS fl_X11_131 rfl rfl dX11_takeLetters_48 ?_
  refine lv_icmp_ge (tgt := 145) hx hb dX11_takeLetters_51 (by decide) (fun c_13 => ?_) (fun c_13 => ?_)
  · replace h := ifp c_13 h
    obtain rfl := Option.some.inj h
    exact hE _ _ _ hS (lv_sub hl [] rfl)
  · replace h := ifn c_13 h
    refine lv_aload_n hx hb dX11_takeLetters_54 rfl (lv_at hl 0 rfl) ?_
    refine r_gR C hS fl_X11_57 rfl rfl rfl dX11_takeLetters_55 ?_
    refine lv_aload_n hx hb dX11_takeLetters_58 rfl (lv_at hl 0 rfl) ?_
    refine r_gI C hS fl_X11_136 rfl rfl dX11_takeLetters_59 ?_
    obtain ⟨b_14, h⟩ := ift h
    refine r_iald C hS rfl rfl b_14 dX11_takeLetters_62 ?_
    refine lv_i2l (v := (M.1 79 (M.1 63 18).toNatClampNeg).toInt64) hx hb dX11_takeLetters_63 rfl ?_
    refine lv_ldc2 hx hb C.2.2.2.1 (C.2.2.2.2.1 _ tw_1062) dX11_takeLetters_64 ?_
    refine lv_ldc2 hx hb C.2.2.2.1 (C.2.2.2.2.1 _ tw_1063) dX11_takeLetters_67 ?_
    obtain ⟨⟨r_15, M_16⟩, hq_17, h⟩ := ob h
    try dsimp only at h
    refine r_thenI hS (r_runS C hS hl.1 cs_X11_123 (c_X11_in l G F ((M.1 79 (M.1 63 18).toNatClampNeg).toInt64) 97 122 M  _ hq_17) ⟨by decide, by decide⟩ rfl rfl (Nat.le_of_ble_eq_true rfl) ⟨Nat.zero_le _, Nat.zero_le _⟩ dX11_takeLetters_70) (fun H locs hS => ?_)
    refine lv_if_eq (tgt := 145) hx hb dX11_takeLetters_73 (by decide) (fun c_18 => ?_) (fun c_18 => ?_)
    · replace h := ifp c_18 h
      obtain rfl := Option.some.inj h
      exact hE _ _ _ hS (lv_sub hl [] rfl)
    · replace h := ifn c_18 h
      refine lv_aload_n hx hb dX11_takeLetters_76 rfl (lv_at hl 0 rfl) ?_
      refine r_gR C hS fl_X11_85 rfl rfl rfl dX11_takeLetters_77 ?_
      refine lv_iload_n hx hb dX11_takeLetters_80 rfl (lv_at hl 1 rfl) ?_
      obtain ⟨b_19, h⟩ := ift h
      refine r_iald C hS rfl rfl b_19 dX11_takeLetters_81 ?_
      refine lv_bipush (v := 12) hx hb dX11_takeLetters_82 (by decide) ?_
      refine lv_icmp_ne (tgt := 97) hx hb dX11_takeLetters_84 (by decide) (fun c_20 => ?_) (fun c_20 => ?_)
      · replace h := ifn c_20 h
        refine lv_aload_n hx hb dX11_takeLetters_97 rfl (lv_at hl 0 rfl) ?_
        refine r_gR C hS fl_X11_88 rfl rfl rfl dX11_takeLetters_98 ?_
        refine lv_bipush (v := 12) hx hb dX11_takeLetters_101 (by decide) ?_
        refine lv_iload_n hx hb dX11_takeLetters_103 rfl (lv_at hl 1 rfl) ?_
        refine lv_imul hx hb dX11_takeLetters_104 ?_
        refine lv_aload_n hx hb dX11_takeLetters_105 rfl (lv_at hl 0 rfl) ?_
        refine r_gR C hS fl_X11_85 rfl rfl rfl dX11_takeLetters_106 ?_
        refine lv_iload_n hx hb dX11_takeLetters_109 rfl (lv_at hl 1 rfl) ?_
        refine r_iald C hS rfl rfl b_19 dX11_takeLetters_110 ?_
        refine lv_iadd hx hb dX11_takeLetters_111 ?_
        refine lv_aload_n hx hb dX11_takeLetters_112 rfl (lv_at hl 0 rfl) ?_
        refine r_gR C hS fl_X11_57 rfl rfl rfl dX11_takeLetters_113 ?_
        refine lv_aload_n hx hb dX11_takeLetters_116 rfl (lv_at hl 0 rfl) ?_
        refine r_gI C hS fl_X11_136 rfl rfl dX11_takeLetters_117 ?_
        obtain ⟨b_21, h⟩ := ift h
        refine r_iald C hS rfl rfl b_21 dX11_takeLetters_120 ?_
        obtain ⟨b_22, h⟩ := ift h
        obtain ⟨M_23, e_24, h⟩ := olt h
        refine r_iast C hS rfl rfl b_22 e_24 dX11_takeLetters_121 (fun H locs hS => ?_)
        refine lv_aload_n hx hb dX11_takeLetters_122 rfl (lv_at hl 0 rfl) ?_
        refine r_gR C hS fl_X11_85 rfl rfl rfl dX11_takeLetters_123 ?_
        refine lv_iload_n hx hb dX11_takeLetters_126 rfl (lv_at hl 1 rfl) ?_
        refine lv_dup2_11 hx hb dX11_takeLetters_127 rfl rfl ?_
        refine r_iald C hS rfl rfl b_19 dX11_takeLetters_128 ?_
        refine lv_iconst (v := 1) hx hb dX11_takeLetters_129 (by decide) ?_
        refine lv_iadd hx hb dX11_takeLetters_130 ?_
        obtain ⟨M_25, e_26, h⟩ := olt h
        refine r_iast C hS rfl rfl b_19 e_26 dX11_takeLetters_131 (fun H locs hS => ?_)
        refine lv_aload_n hx hb dX11_takeLetters_132 rfl (lv_at hl 0 rfl) ?_
        refine lv_dup hx hb dX11_takeLetters_133 rfl ?_
        refine r_gI C hS fl_X11_136 rfl rfl dX11_takeLetters_134 ?_
        refine lv_iconst (v := 1) hx hb dX11_takeLetters_137 (by decide) ?_
        refine lv_iadd hx hb dX11_takeLetters_138 ?_
        obtain ⟨M_27, e_28, h⟩ := olt h
        refine r_pI C hS fp_X11_136 rfl rfl e_28 dX11_takeLetters_139 (fun H locs hS => ?_)
        refine lv_goto (tgt := 43) hx hb dX11_takeLetters_142 (by decide) ?_
        obtain rfl := Option.some.inj h
        exact hE _ _ _ hS (lv_sub hl [0, 1] rfl)
      · replace h := ifp c_20 h
        obtain rfl := Option.some.inj h
        exact hE _ _ _ hS (lv_sub hl [0] rfl)
set_option maxHeartbeats 4000000 in
set_option maxRecDepth 100000 in
theorem c_X11_takeLetters (l : Launch) (G : Gl) (F : Nat) (x1 : Int32) (M : zM)  (q : Int32 × zM) (h : Mod_takeLetters F x1 M = some q) : Met l yX11_takeLetters (wsM yX11_takeLetters cX11_takeLetters 3 (some .int)) (rmM 1 25) (Pre G M [.ref (G.1 + 63), .int x1]) (PoI G q) 0 0 (gA G) := by
  refine r_met (own := RX11) rfl (by decide) (Nat.le_of_ble_eq_true rfl) ?_
  intro p e s m below meth c ls C hr hlk hS hl
  have hl : lv_has ls 3 [(0, .ref (G.1 + 63)), (1, .int x1)] := hl
  obtain ⟨hx, hb, -⟩ := id C
  unfold Mod_takeLetters at h
  refine lv_aload_n hx hb dX11_takeLetters_0 rfl (lv_at hl 0 rfl) ?_
  obtain ⟨⟨r_1, M_2⟩, hq_3, h⟩ := ob h
  try dsimp only at h
  refine r_thenI hS (r_runV C hS hl.1 cv_X11_139 rfl (c_X11_here l G F  M  _ hq_3) ⟨by decide, by decide⟩ rfl rfl (Nat.le_of_ble_eq_true rfl) ⟨Nat.zero_le _, Nat.zero_le _⟩ dX11_takeLetters_1) (fun H locs hS => ?_)
  refine lv_istore_n (lv' := [(2, .int r_1), (0, .ref (G.1 + 63)), (1, .int x1)]) hx hb dX11_takeLetters_4 rfl hl (by decide) rfl (fun ls hl => ?_)
  refine lv_iload_n hx hb dX11_takeLetters_5 rfl (lv_at hl 0 rfl) ?_
  refine lv_i2l (v := r_1.toInt64) hx hb dX11_takeLetters_6 rfl ?_
  refine lv_ldc2 hx hb C.2.2.2.1 (C.2.2.2.2.1 _ tw_1062) dX11_takeLetters_7 ?_
  refine lv_ldc2 hx hb C.2.2.2.1 (C.2.2.2.2.1 _ tw_1063) dX11_takeLetters_10 ?_
  obtain ⟨⟨r_4, M_5⟩, hq_6, h⟩ := ob h
  try dsimp only at h
  refine r_thenI hS (r_runS C hS hl.1 cs_X11_123 (c_X11_in l G F r_1.toInt64 97 122 M_2  _ hq_6) ⟨by decide, by decide⟩ rfl rfl (Nat.le_of_ble_eq_true rfl) ⟨Nat.zero_le _, Nat.zero_le _⟩ dX11_takeLetters_13) (fun H locs hS => ?_)
  refine lv_if_ne (tgt := 29) hx hb dX11_takeLetters_16 (by decide) (fun c_7 => ?_) (fun c_7 => ?_)
  · replace h := ifn c_7 h
    refine lv_aload_n hx hb dX11_takeLetters_29 rfl (lv_at hl 1 rfl) ?_
    refine r_gR C hS fl_X11_79 rfl rfl rfl dX11_takeLetters_30 ?_
    refine lv_iload_n hx hb dX11_takeLetters_33 rfl (lv_at hl 2 rfl) ?_
    refine lv_iconst (v := 0) hx hb dX11_takeLetters_34 (by decide) ?_
    obtain ⟨b_8, h⟩ := ift h
    obtain ⟨M_9, e_10, h⟩ := olt h
    refine r_iast C hS rfl rfl b_8 e_10 dX11_takeLetters_35 (fun H locs hS => ?_)
    refine lv_aload_n hx hb dX11_takeLetters_36 rfl (lv_at hl 1 rfl) ?_
    refine r_gR C hS fl_X11_85 rfl rfl rfl dX11_takeLetters_37 ?_
    refine lv_iload_n hx hb dX11_takeLetters_40 rfl (lv_at hl 2 rfl) ?_
    refine lv_iconst (v := 0) hx hb dX11_takeLetters_41 (by decide) ?_
    obtain ⟨M_11, e_12, h⟩ := olt h
    refine r_iast C hS rfl rfl b_8 e_12 dX11_takeLetters_42 (fun H locs hS => ?_)
    obtain ⟨⟨k_30, M_29⟩, hq_31, h⟩ := ob h
    try dsimp only at h
    refine loopW (E := (E_Mod_takeLetters_43 G p l e s m _ below meth c _ x1)) (w_Mod_takeLetters_B43 C x1 F) F _ _ hq_31 ?_ _ _ _ hS (lv_sub hl [1, 2] rfl)
    by_cases ek_36 : k_30 = 1
    · replace h := ifp ek_36 h
      subst ek_36
      intro H locs ls hS hl
      refine lv_aload_n hx hb dX11_takeLetters_87 rfl (lv_at hl 0 rfl) ?_
      refine lv_iconst (v := 4) hx hb dX11_takeLetters_88 (by decide) ?_
      refine lv_aload_n hx hb dX11_takeLetters_89 rfl (lv_at hl 0 rfl) ?_
      refine r_gI C hS fl_X11_136 rfl rfl dX11_takeLetters_90 ?_
      obtain ⟨⟨r_33, M_34⟩, hq_35, h⟩ := ob h
      try dsimp only at h
      refine r_thenI hS (r_runV C hS hl.1 cv_X11_147 rfl (c_X11_fails l G F 4 (M_29.1 63 18) M_29  _ hq_35) ⟨by decide, by decide⟩ rfl rfl (Nat.le_of_ble_eq_true rfl) ⟨Nat.zero_le _, Nat.zero_le _⟩ dX11_takeLetters_93) (fun H locs hS => ?_)
      exact r_iret C hS hr hlk h dX11_takeLetters_96
    · replace h := ifn ek_36 h
      by_cases ek_32 : k_30 = 2
      · replace h := ifp ek_32 h
        subst ek_32
        intro H locs ls hS hl
        refine lv_iconst (v := 0) hx hb dX11_takeLetters_145 (by decide) ?_
        exact r_iret C hS hr hlk h dX11_takeLetters_146
      · replace h := ifn ek_32 h
        cases h
  · replace h := ifp c_7 h
    refine lv_aload_n hx hb dX11_takeLetters_19 rfl (lv_at hl 1 rfl) ?_
    refine lv_iconst (v := 1) hx hb dX11_takeLetters_20 (by decide) ?_
    refine lv_aload_n hx hb dX11_takeLetters_21 rfl (lv_at hl 1 rfl) ?_
    refine r_gI C hS fl_X11_136 rfl rfl dX11_takeLetters_22 ?_
    obtain ⟨⟨r_37, M_38⟩, hq_39, h⟩ := ob h
    try dsimp only at h
    refine r_thenI hS (r_runV C hS hl.1 cv_X11_147 rfl (c_X11_fails l G F 1 (M_5.1 63 18) M_5  _ hq_39) ⟨by decide, by decide⟩ rfl rfl (Nat.le_of_ble_eq_true rfl) ⟨Nat.zero_le _, Nat.zero_le _⟩ dX11_takeLetters_25) (fun H locs hS => ?_)
    exact r_iret C hS hr hlk h dX11_takeLetters_28
set_option maxHeartbeats 4000000 in
set_option maxRecDepth 100000 in
theorem w_Mod_takePart_J193 {G : Gl} {p : Program} {l : Launch} {e : Env} {s : State} {m : MethodId} {args : Array Value} {below : List Frame} {meth : Method} {c : Code} (C : Cx G cX11_takePart 7 RX11 p s m args c) (hr : meth.sig.returnType = (some .int)) (hlk : meth.locks = false) (F : Nat) (x4 : Int32) (y0 : Int32) (M : zM)  (q : Int32 × zM) (h : Mod_takePart_J193 F x4 y0 M = some q) (H : Heap) (locs : List Loc) (ls : Array Slot) (hS : St G M s H locs) (hl : lv_has ls 7 [(0, .ref (G.1 + 63)), (4, .int x4)]) : W p l e (rmM 2 47) s m args below meth c H locs 0 0 (MQ below (PoI G q) args s 0 0 (gA G)) (F0 m 193 ls [.int y0]) := by
  obtain ⟨hx, hb, -⟩ := id C
  unfold Mod_takePart_J193 at h
  refine lv_istore (lv' := [(6, .int y0), (0, .ref (G.1 + 63)), (4, .int x4)]) hx hb dX11_takePart_193 hl (by decide) rfl (fun ls hl => ?_)
  refine lv_iload hx hb dX11_takePart_195 (lv_at hl 0 rfl) ?_
  refine lv_if_ge (tgt := 210) hx hb dX11_takePart_197 (by decide) (fun c_23 => ?_) (fun c_23 => ?_)
  · replace h := ifp c_23 h
    refine lv_aload_n hx hb dX11_takePart_210 rfl (lv_at hl 1 rfl) ?_
    refine r_gR C hS fl_X11_79 rfl rfl rfl dX11_takePart_211 ?_
    refine lv_iload hx hb dX11_takePart_214 (lv_at hl 2 rfl) ?_
    refine lv_iload hx hb dX11_takePart_216 (lv_at hl 0 rfl) ?_
    obtain ⟨b_24, h⟩ := ift h
    obtain ⟨M_25, e_26, h⟩ := olt h
    refine r_iast C hS rfl rfl b_24 e_26 dX11_takePart_218 (fun H locs hS => ?_)
    refine lv_aload_n hx hb dX11_takePart_219 rfl (lv_at hl 1 rfl) ?_
    refine lv_dup hx hb dX11_takePart_220 rfl ?_
    refine r_gI C hS fl_X11_136 rfl rfl dX11_takePart_221 ?_
    refine lv_iconst (v := 1) hx hb dX11_takePart_224 (by decide) ?_
    refine lv_iadd hx hb dX11_takePart_225 ?_
    obtain ⟨M_27, e_28, h⟩ := olt h
    refine r_pI C hS fp_X11_136 rfl rfl e_28 dX11_takePart_226 (fun H locs hS => ?_)
    refine lv_iconst (v := 0) hx hb dX11_takePart_229 (by decide) ?_
    exact r_iret C hS hr hlk h dX11_takePart_230
  · replace h := ifn c_23 h
    refine lv_aload_n hx hb dX11_takePart_200 rfl (lv_at hl 1 rfl) ?_
    refine lv_iconst (v := 1) hx hb dX11_takePart_201 (by decide) ?_
    refine lv_aload_n hx hb dX11_takePart_202 rfl (lv_at hl 1 rfl) ?_
    refine r_gI C hS fl_X11_136 rfl rfl dX11_takePart_203 ?_
    obtain ⟨⟨r_29, M_30⟩, hq_31, h⟩ := ob h
    try dsimp only at h
    refine r_thenI hS (r_runV C hS hl.1 cv_X11_147 rfl (c_X11_fails l G F 1 (M.1 63 18) M  _ hq_31) ⟨by decide, by decide⟩ rfl rfl (Nat.le_of_ble_eq_true rfl) ⟨Nat.zero_le _, Nat.zero_le _⟩ dX11_takePart_206) (fun H locs hS => ?_)
    exact r_iret C hS hr hlk h dX11_takePart_209
set_option maxHeartbeats 4000000 in
set_option maxRecDepth 100000 in
theorem w_Mod_takePart_J135 {G : Gl} {p : Program} {l : Launch} {e : Env} {s : State} {m : MethodId} {args : Array Value} {below : List Frame} {meth : Method} {c : Code} (C : Cx G cX11_takePart 7 RX11 p s m args c) (hr : meth.sig.returnType = (some .int)) (hlk : meth.locks = false) (F : Nat) (x4 : Int32) (y0 : Int32) (M : zM)  (q : Int32 × zM) (h : Mod_takePart_J135 F x4 y0 M = some q) (H : Heap) (locs : List Loc) (ls : Array Slot) (hS : St G M s H locs) (hl : lv_has ls 7 [(0, .ref (G.1 + 63)), (4, .int x4)]) : W p l e (rmM 2 47) s m args below meth c H locs 0 0 (MQ below (PoI G q) args s 0 0 (gA G)) (F0 m 135 ls [.int y0]) := by
  obtain ⟨hx, hb, -⟩ := id C
  unfold Mod_takePart_J135 at h
  refine lv_istore (lv' := [(5, .int y0), (0, .ref (G.1 + 63)), (4, .int x4)]) hx hb dX11_takePart_135 hl (by decide) rfl (fun ls hl => ?_)
  refine lv_iload hx hb dX11_takePart_137 (lv_at hl 0 rfl) ?_
  refine lv_bipush (v := 113) hx hb dX11_takePart_139 (by decide) ?_
  refine lv_icmp_ne (tgt := 148) hx hb dX11_takePart_141 (by decide) (fun c_18 => ?_) (fun c_18 => ?_)
  · replace h := ifn c_18 h
    refine lv_iload hx hb dX11_takePart_148 (lv_at hl 0 rfl) ?_
    refine lv_bipush (v := 116) hx hb dX11_takePart_150 (by decide) ?_
    refine lv_icmp_ne (tgt := 159) hx hb dX11_takePart_152 (by decide) (fun c_19 => ?_) (fun c_19 => ?_)
    · replace h := ifn c_19 h
      refine lv_iload hx hb dX11_takePart_159 (lv_at hl 0 rfl) ?_
      refine lv_bipush (v := 114) hx hb dX11_takePart_161 (by decide) ?_
      refine lv_icmp_ne (tgt := 170) hx hb dX11_takePart_163 (by decide) (fun c_20 => ?_) (fun c_20 => ?_)
      · replace h := ifn c_20 h
        refine lv_iload hx hb dX11_takePart_170 (lv_at hl 0 rfl) ?_
        refine lv_bipush (v := 99) hx hb dX11_takePart_172 (by decide) ?_
        refine lv_icmp_ne (tgt := 181) hx hb dX11_takePart_174 (by decide) (fun c_21 => ?_) (fun c_21 => ?_)
        · replace h := ifn c_21 h
          refine lv_iload hx hb dX11_takePart_181 (lv_at hl 0 rfl) ?_
          refine lv_bipush (v := 110) hx hb dX11_takePart_183 (by decide) ?_
          refine lv_icmp_ne (tgt := 192) hx hb dX11_takePart_185 (by decide) (fun c_22 => ?_) (fun c_22 => ?_)
          · replace h := ifn c_22 h
            refine lv_iconst (v := (-1)) hx hb dX11_takePart_192 (by decide) ?_
            exact w_Mod_takePart_J193 C hr hlk F x4 (-1) M  q h _ _ _ hS (lv_sub hl [1, 2] rfl)
          · replace h := ifp c_22 h
            refine lv_iconst (v := 5) hx hb dX11_takePart_188 (by decide) ?_
            refine lv_goto (tgt := 193) hx hb dX11_takePart_189 (by decide) ?_
            exact w_Mod_takePart_J193 C hr hlk F x4 5 M  q h _ _ _ hS (lv_sub hl [1, 2] rfl)
        · replace h := ifp c_21 h
          refine lv_iconst (v := 4) hx hb dX11_takePart_177 (by decide) ?_
          refine lv_goto (tgt := 193) hx hb dX11_takePart_178 (by decide) ?_
          exact w_Mod_takePart_J193 C hr hlk F x4 4 M  q h _ _ _ hS (lv_sub hl [1, 2] rfl)
      · replace h := ifp c_20 h
        refine lv_iconst (v := 3) hx hb dX11_takePart_166 (by decide) ?_
        refine lv_goto (tgt := 193) hx hb dX11_takePart_167 (by decide) ?_
        exact w_Mod_takePart_J193 C hr hlk F x4 3 M  q h _ _ _ hS (lv_sub hl [1, 2] rfl)
    · replace h := ifp c_19 h
      refine lv_iconst (v := 2) hx hb dX11_takePart_155 (by decide) ?_
      refine lv_goto (tgt := 193) hx hb dX11_takePart_156 (by decide) ?_
      exact w_Mod_takePart_J193 C hr hlk F x4 2 M  q h _ _ _ hS (lv_sub hl [1, 2] rfl)
  · replace h := ifp c_18 h
    refine lv_iconst (v := 1) hx hb dX11_takePart_144 (by decide) ?_
    refine lv_goto (tgt := 193) hx hb dX11_takePart_145 (by decide) ?_
    exact w_Mod_takePart_J193 C hr hlk F x4 1 M  q h _ _ _ hS (lv_sub hl [1, 2] rfl)
set_option maxHeartbeats 4000000 in
set_option maxRecDepth 100000 in
theorem w_Mod_takePart_J35 {G : Gl} {p : Program} {l : Launch} {e : Env} {s : State} {m : MethodId} {args : Array Value} {below : List Frame} {meth : Method} {c : Code} (C : Cx G cX11_takePart 7 RX11 p s m args c) (hr : meth.sig.returnType = (some .int)) (hlk : meth.locks = false) (F : Nat) (x1 : Int32) (x2 : Int32) (x3 : Int32) (M : zM)  (q : Int32 × zM) (h : Mod_takePart_J35 F x1 x2 x3 M = some q) (H : Heap) (locs : List Loc) (ls : Array Slot) (hS : St G M s H locs) (hl : lv_has ls 7 [(0, .ref (G.1 + 63)), (1, .int x1), (2, .int x2), (3, .int x3)]) : W p l e (rmM 2 47) s m args below meth c H locs 0 0 (MQ below (PoI G q) args s 0 0 (gA G)) (F0 m 35 ls []) := by
  obtain ⟨hx, hb, -⟩ := id C
  unfold Mod_takePart_J35 at h
  refine lv_aload_n hx hb dX11_takePart_35 rfl (lv_at hl 0 rfl) ?_
  refine r_gR C hS fl_X11_76 rfl rfl rfl dX11_takePart_36 ?_
  refine lv_iload_n hx hb dX11_takePart_39 rfl (lv_at hl 1 rfl) ?_
  obtain ⟨b_5, h⟩ := ift h
  refine r_iald C hS rfl rfl b_5 dX11_takePart_40 ?_
  refine lv_bipush (v := 8) hx hb dX11_takePart_41 (by decide) ?_
  refine lv_icmp_ne (tgt := 57) hx hb dX11_takePart_43 (by decide) (fun c_6 => ?_) (fun c_6 => ?_)
  · replace h := ifn c_6 h
    refine lv_bipush (v := 8) hx hb dX11_takePart_57 (by decide) ?_
    refine lv_iload_n hx hb dX11_takePart_59 rfl (lv_at hl 1 rfl) ?_
    refine lv_imul hx hb dX11_takePart_60 ?_
    refine lv_aload_n hx hb dX11_takePart_61 rfl (lv_at hl 0 rfl) ?_
    refine r_gR C hS fl_X11_76 rfl rfl rfl dX11_takePart_62 ?_
    refine lv_iload_n hx hb dX11_takePart_65 rfl (lv_at hl 1 rfl) ?_
    refine r_iald C hS rfl rfl b_5 dX11_takePart_66 ?_
    refine lv_iadd hx hb dX11_takePart_67 ?_
    obtain ⟨x4_7, e_8, h⟩ := olt h
    refine r_nI e_8 ?_
    refine lv_istore (lv' := [(4, .int x4_7), (0, .ref (G.1 + 63)), (1, .int x1), (2, .int x2), (3, .int x3)]) hx hb dX11_takePart_68 hl (by decide) rfl (fun ls hl => ?_)
    refine lv_aload_n hx hb dX11_takePart_70 rfl (lv_at hl 1 rfl) ?_
    refine r_gR C hS fl_X11_82 rfl rfl rfl dX11_takePart_71 ?_
    refine lv_iload hx hb dX11_takePart_74 (lv_at hl 0 rfl) ?_
    refine lv_iload_n hx hb dX11_takePart_76 rfl (lv_at hl 3 rfl) ?_
    obtain ⟨b_9, h⟩ := ift h
    obtain ⟨M_10, e_11, h⟩ := olt h
    refine r_zast C hS rfl rfl b_9 e_11 dX11_takePart_77 (fun H locs hS => ?_)
    refine lv_aload_n hx hb dX11_takePart_78 rfl (lv_at hl 1 rfl) ?_
    refine r_gR C hS fl_X11_76 rfl rfl rfl dX11_takePart_79 ?_
    refine lv_iload_n hx hb dX11_takePart_82 rfl (lv_at hl 2 rfl) ?_
    refine lv_dup2_11 hx hb dX11_takePart_83 rfl rfl ?_
    refine r_iald C hS rfl rfl b_5 dX11_takePart_84 ?_
    refine lv_iconst (v := 1) hx hb dX11_takePart_85 (by decide) ?_
    refine lv_iadd hx hb dX11_takePart_86 ?_
    obtain ⟨M_12, e_13, h⟩ := olt h
    refine r_iast C hS rfl rfl b_5 e_13 dX11_takePart_87 (fun H locs hS => ?_)
    refine lv_iload_n hx hb dX11_takePart_88 rfl (lv_at hl 4 rfl) ?_
    refine lv_bipush (v := 35) hx hb dX11_takePart_89 (by decide) ?_
    refine lv_icmp_eq (tgt := 101) hx hb dX11_takePart_91 (by decide) (fun c_14 => ?_) (fun c_14 => ?_)
    · replace h := ifp c_14 h
      refine lv_aload_n hx hb dX11_takePart_101 rfl (lv_at hl 1 rfl) ?_
      refine lv_dup hx hb dX11_takePart_102 rfl ?_
      refine r_gI C hS fl_X11_136 rfl rfl dX11_takePart_103 ?_
      refine lv_iconst (v := 1) hx hb dX11_takePart_106 (by decide) ?_
      refine lv_iadd hx hb dX11_takePart_107 ?_
      obtain ⟨M_15, e_16, h⟩ := olt h
      refine r_pI C hS fp_X11_136 rfl rfl e_16 dX11_takePart_108 (fun H locs hS => ?_)
      refine lv_aload_n hx hb dX11_takePart_111 rfl (lv_at hl 1 rfl) ?_
      refine r_gI C hS fl_X11_136 rfl rfl dX11_takePart_112 ?_
      refine lv_aload_n hx hb dX11_takePart_115 rfl (lv_at hl 1 rfl) ?_
      refine r_gI C hS fl_X11_131 rfl rfl dX11_takePart_116 ?_
      refine lv_icmp_ge (tgt := 134) hx hb dX11_takePart_119 (by decide) (fun c_17 => ?_) (fun c_17 => ?_)
      · replace h := ifp c_17 h
        refine lv_iconst (v := (-1)) hx hb dX11_takePart_134 (by decide) ?_
        exact w_Mod_takePart_J135 C hr hlk F x4_7 (-1) M_15  q h _ _ _ hS (lv_sub hl [1, 0] rfl)
      · replace h := ifn c_17 h
        refine lv_aload_n hx hb dX11_takePart_122 rfl (lv_at hl 1 rfl) ?_
        refine r_gR C hS fl_X11_57 rfl rfl rfl dX11_takePart_123 ?_
        refine lv_aload_n hx hb dX11_takePart_126 rfl (lv_at hl 1 rfl) ?_
        refine r_gI C hS fl_X11_136 rfl rfl dX11_takePart_127 ?_
        obtain ⟨b_32, h⟩ := ift h
        refine r_iald C hS rfl rfl b_32 dX11_takePart_130 ?_
        refine lv_goto (tgt := 135) hx hb dX11_takePart_131 (by decide) ?_
        exact w_Mod_takePart_J135 C hr hlk F x4_7 (M_15.1 79 (M_15.1 63 18).toNatClampNeg) M_15  q h _ _ _ hS (lv_sub hl [1, 0] rfl)
    · replace h := ifn c_14 h
      refine lv_aload_n hx hb dX11_takePart_94 rfl (lv_at hl 1 rfl) ?_
      refine lv_iload hx hb dX11_takePart_95 (lv_at hl 0 rfl) ?_
      obtain ⟨⟨r_33, M_34⟩, hq_35, h⟩ := ob h
      try dsimp only at h
      refine r_thenI hS (r_runV C hS hl.1 cv_X11_168 rfl (c_X11_takeLetters l G F x4_7 M_12  _ hq_35) ⟨by decide, by decide⟩ rfl rfl (Nat.le_of_ble_eq_true rfl) ⟨Nat.zero_le _, Nat.zero_le _⟩ dX11_takePart_97) (fun H locs hS => ?_)
      exact r_iret C hS hr hlk h dX11_takePart_100
  · replace h := ifp c_6 h
    refine lv_aload_n hx hb dX11_takePart_46 rfl (lv_at hl 0 rfl) ?_
    refine lv_bipush (v := 6) hx hb dX11_takePart_47 (by decide) ?_
    refine lv_aload_n hx hb dX11_takePart_49 rfl (lv_at hl 0 rfl) ?_
    refine r_gI C hS fl_X11_136 rfl rfl dX11_takePart_50 ?_
    obtain ⟨⟨r_36, M_37⟩, hq_38, h⟩ := ob h
    try dsimp only at h
    refine r_thenI hS (r_runV C hS hl.1 cv_X11_147 rfl (c_X11_fails l G F 6 (M.1 63 18) M  _ hq_38) ⟨by decide, by decide⟩ rfl rfl (Nat.le_of_ble_eq_true rfl) ⟨Nat.zero_le _, Nat.zero_le _⟩ dX11_takePart_53) (fun H locs hS => ?_)
    exact r_iret C hS hr hlk h dX11_takePart_56
set_option maxHeartbeats 4000000 in
set_option maxRecDepth 100000 in
theorem c_X11_takePart (l : Launch) (G : Gl) (F : Nat) (x1 : Int32) (x2 : Int32) (M : zM)  (q : Int32 × zM) (h : Mod_takePart F x1 x2 M = some q) : Met l yX11_takePart (wsM yX11_takePart cX11_takePart 7 (some .int)) (rmM 2 47) (Pre G M [.ref (G.1 + 63), .int x1, .int x2]) (PoI G q) 0 0 (gA G) := by
  refine r_met (own := RX11) rfl (by decide) (Nat.le_of_ble_eq_true rfl) ?_
  intro p e s m below meth c ls C hr hlk hS hl
  have hl : lv_has ls 7 [(0, .ref (G.1 + 63)), (1, .int x1), (2, .int x2)] := hl
  obtain ⟨hx, hb, -⟩ := id C
  unfold Mod_takePart at h
  refine lv_aload_n hx hb dX11_takePart_0 rfl (lv_at hl 0 rfl) ?_
  obtain ⟨⟨r_1, M_2⟩, hq_3, h⟩ := ob h
  try dsimp only at h
  refine r_thenI hS (r_runV C hS hl.1 cv_X11_139 rfl (c_X11_here l G F  M  _ hq_3) ⟨by decide, by decide⟩ rfl rfl (Nat.le_of_ble_eq_true rfl) ⟨Nat.zero_le _, Nat.zero_le _⟩ dX11_takePart_1) (fun H locs hS => ?_)
  refine lv_istore_n (lv' := [(3, .int r_1), (0, .ref (G.1 + 63)), (1, .int x1), (2, .int x2)]) hx hb dX11_takePart_4 rfl hl (by decide) rfl (fun ls hl => ?_)
  refine lv_iload_n hx hb dX11_takePart_5 rfl (lv_at hl 0 rfl) ?_
  refine lv_bipush (v := 35) hx hb dX11_takePart_6 (by decide) ?_
  refine lv_icmp_eq (tgt := 35) hx hb dX11_takePart_8 (by decide) (fun c_4 => ?_) (fun c_4 => ?_)
  · replace h := ifp c_4 h
    exact w_Mod_takePart_J35 C hr hlk F x1 x2 r_1 M_2  q h _ _ _ hS (lv_sub hl [1, 2, 3, 0] rfl)
  · replace h := ifn c_4 h
    refine lv_iload_n hx hb dX11_takePart_11 rfl (lv_at hl 0 rfl) ?_
    refine lv_i2l (v := r_1.toInt64) hx hb dX11_takePart_12 rfl ?_
    refine lv_ldc2 hx hb C.2.2.2.1 (C.2.2.2.2.1 _ tw_1062) dX11_takePart_13 ?_
    refine lv_ldc2 hx hb C.2.2.2.1 (C.2.2.2.2.1 _ tw_1063) dX11_takePart_16 ?_
    obtain ⟨⟨r_39, M_40⟩, hq_41, h⟩ := ob h
    try dsimp only at h
    refine r_thenI hS (r_runS C hS hl.1 cs_X11_123 (c_X11_in l G F r_1.toInt64 97 122 M_2  _ hq_41) ⟨by decide, by decide⟩ rfl rfl (Nat.le_of_ble_eq_true rfl) ⟨Nat.zero_le _, Nat.zero_le _⟩ dX11_takePart_19) (fun H locs hS => ?_)
    refine lv_if_ne (tgt := 35) hx hb dX11_takePart_22 (by decide) (fun c_42 => ?_) (fun c_42 => ?_)
    · replace h := ifn c_42 h
      exact w_Mod_takePart_J35 C hr hlk F x1 x2 r_1 M_40  q h _ _ _ hS (lv_sub hl [1, 2, 3, 0] rfl)
    · replace h := ifp c_42 h
      refine lv_aload_n hx hb dX11_takePart_25 rfl (lv_at hl 1 rfl) ?_
      refine lv_iconst (v := 1) hx hb dX11_takePart_26 (by decide) ?_
      refine lv_aload_n hx hb dX11_takePart_27 rfl (lv_at hl 1 rfl) ?_
      refine r_gI C hS fl_X11_136 rfl rfl dX11_takePart_28 ?_
      obtain ⟨⟨r_43, M_44⟩, hq_45, h⟩ := ob h
      try dsimp only at h
      refine r_thenI hS (r_runV C hS hl.1 cv_X11_147 rfl (c_X11_fails l G F 1 (M_40.1 63 18) M_40  _ hq_45) ⟨by decide, by decide⟩ rfl rfl (Nat.le_of_ble_eq_true rfl) ⟨Nat.zero_le _, Nat.zero_le _⟩ dX11_takePart_31) (fun H locs hS => ?_)
      exact r_iret C hS hr hlk h dX11_takePart_34
def E_Mod_takeBracket_17 (G : Gl) (p : Program) (l : Launch) (e : Env) (s : State) (m : MethodId) (args : Array Value) (below : List Frame) (meth : Method) (c : Code) (Q : State → Prop) (x1 : Int32) : Nat → (Int32 × zM) → Prop := fun k (x2, M) => match k with
  | 0 => ∀ (H : Heap) (locs : List Loc) (ls : Array Slot), St G M s H locs → lv_has ls 3 [(0, .ref (G.1 + 63)), (1, .int x1), (2, .int x2)] → W p l e (rmM 3 73) s m args below meth c H locs 0 0 Q (F0 m 17 ls [])
  | 1 => ∀ (H : Heap) (locs : List Loc) (ls : Array Slot), St G M s H locs → lv_has ls 3 [(0, .ref (G.1 + 63)), (2, .int x2)] → W p l e (rmM 3 73) s m args below meth c H locs 0 0 Q (F0 m 40 ls [])
  | _ => True
set_option maxHeartbeats 4000000 in
set_option maxRecDepth 100000 in
theorem w_Mod_takeBracket_B17 {G : Gl} {p : Program} {l : Launch} {e : Env} {s : State} {m : MethodId} {args : Array Value} {below : List Frame} {meth : Method} {c : Code} {Q : State → Prop} (C : Cx G cX11_takeBracket 3 RX11 p s m args c) (x1 : Int32) (F : Nat) : ∀ (σ : (Int32 × zM)) (q : Nat × (Int32 × zM)), Mod_takeBracket_B17 F x1 σ = some q → (E_Mod_takeBracket_17 G p l e s m args below meth c Q x1) q.1 q.2 → (E_Mod_takeBracket_17 G p l e s m args below meth c Q x1) 0 σ := by
  intro (x2, M) q h hE H locs ls hS hl
  obtain ⟨hx, hb, -⟩ := id C
  unfold Mod_takeBracket_B17 at h
  try dsimp only at h
  refine lv_iload_n hx hb dX11_takeBracket_17 rfl (lv_at hl 2 rfl) ?_
  refine lv_if_ne (tgt := 40) hx hb dX11_takeBracket_18 (by decide) (fun c_6 => ?_) (fun c_6 => ?_)
  · replace h := ifn c_6 h
    obtain rfl := Option.some.inj h
    exact hE _ _ _ hS (lv_sub hl [0, 2] rfl)
  · replace h := ifp c_6 h
    refine lv_aload_n hx hb dX11_takeBracket_21 rfl (lv_at hl 0 rfl) ?_
    obtain ⟨⟨r_7, M_8⟩, hq_9, h⟩ := ob h
    try dsimp only at h
    refine r_thenI hS (r_runV C hS hl.1 cv_X11_139 rfl (c_X11_here l G F  M  _ hq_9) ⟨by decide, by decide⟩ rfl rfl (Nat.le_of_ble_eq_true rfl) ⟨Nat.zero_le _, Nat.zero_le _⟩ dX11_takeBracket_22) (fun H locs hS => ?_)
    refine lv_bipush (v := 93) hx hb dX11_takeBracket_25 (by decide) ?_
    refine lv_icmp_eq (tgt := 40) hx hb dX11_takeBracket_27 (by decide) (fun c_10 => ?_) (fun c_10 => ?_)
    · replace h := ifp c_10 h
      obtain rfl := Option.some.inj h
      exact hE _ _ _ hS (lv_sub hl [0, 2] rfl)
    · replace h := ifn c_10 h
      refine lv_aload_n hx hb dX11_takeBracket_30 rfl (lv_at hl 0 rfl) ?_
      refine lv_iload_n hx hb dX11_takeBracket_31 rfl (lv_at hl 1 rfl) ?_
      refine lv_iconst (v := 1) hx hb dX11_takeBracket_32 (by decide) ?_
      obtain ⟨⟨r_11, M_12⟩, hq_13, h⟩ := ob h
      try dsimp only at h
      refine r_thenI hS (r_runV C hS hl.1 cv_X11_172 rfl (c_X11_takePart l G F x1 1 M_8  _ hq_13) ⟨by decide, by decide⟩ rfl rfl (Nat.le_of_ble_eq_true rfl) ⟨Nat.zero_le _, Nat.zero_le _⟩ dX11_takeBracket_33) (fun H locs hS => ?_)
      refine lv_istore_n (lv' := [(2, .int r_11), (0, .ref (G.1 + 63)), (1, .int x1)]) hx hb dX11_takeBracket_36 rfl hl (by decide) rfl (fun ls hl => ?_)
      refine lv_goto (tgt := 17) hx hb dX11_takeBracket_37 (by decide) ?_
      obtain rfl := Option.some.inj h
      exact hE _ _ _ hS (lv_sub hl [1, 2, 0] rfl)
set_option maxHeartbeats 4000000 in
set_option maxRecDepth 100000 in
theorem w_Mod_takeBracket_J40 {G : Gl} {p : Program} {l : Launch} {e : Env} {s : State} {m : MethodId} {args : Array Value} {below : List Frame} {meth : Method} {c : Code} (C : Cx G cX11_takeBracket 3 RX11 p s m args c) (hr : meth.sig.returnType = (some .int)) (hlk : meth.locks = false) (F : Nat) (x2 : Int32) (M : zM)  (q : Int32 × zM) (h : Mod_takeBracket_J40 F x2 M = some q) (H : Heap) (locs : List Loc) (ls : Array Slot) (hS : St G M s H locs) (hl : lv_has ls 3 [(0, .ref (G.1 + 63)), (2, .int x2)]) : W p l e (rmM 3 73) s m args below meth c H locs 0 0 (MQ below (PoI G q) args s 0 0 (gA G)) (F0 m 40 ls []) := by
  obtain ⟨hx, hb, -⟩ := id C
  unfold Mod_takeBracket_J40 at h
  refine lv_aload_n hx hb dX11_takeBracket_40 rfl (lv_at hl 0 rfl) ?_
  refine lv_dup hx hb dX11_takeBracket_41 rfl ?_
  refine r_gI C hS fl_X11_136 rfl rfl dX11_takeBracket_42 ?_
  refine lv_iload_n hx hb dX11_takeBracket_45 rfl (lv_at hl 1 rfl) ?_
  refine lv_if_ne (tgt := 53) hx hb dX11_takeBracket_46 (by decide) (fun c_18 => ?_) (fun c_18 => ?_)
  · replace h := ifn c_18 h
    refine lv_iconst (v := 0) hx hb dX11_takeBracket_53 (by decide) ?_
    refine lv_iadd hx hb dX11_takeBracket_54 ?_
    obtain ⟨M_19, e_20, h⟩ := olt h
    refine r_pI C hS fp_X11_136 rfl rfl e_20 dX11_takeBracket_55 (fun H locs hS => ?_)
    refine lv_iload_n hx hb dX11_takeBracket_58 rfl (lv_at hl 1 rfl) ?_
    exact r_iret C hS hr hlk h dX11_takeBracket_59
  · replace h := ifp c_18 h
    refine lv_iconst (v := 1) hx hb dX11_takeBracket_49 (by decide) ?_
    refine lv_goto (tgt := 54) hx hb dX11_takeBracket_50 (by decide) ?_
    refine lv_iadd hx hb dX11_takeBracket_54 ?_
    obtain ⟨M_21, e_22, h⟩ := olt h
    refine r_pI C hS fp_X11_136 rfl rfl e_22 dX11_takeBracket_55 (fun H locs hS => ?_)
    refine lv_iload_n hx hb dX11_takeBracket_58 rfl (lv_at hl 1 rfl) ?_
    exact r_iret C hS hr hlk h dX11_takeBracket_59
set_option maxHeartbeats 4000000 in
set_option maxRecDepth 100000 in
theorem c_X11_takeBracket (l : Launch) (G : Gl) (F : Nat) (x1 : Int32) (M : zM)  (q : Int32 × zM) (h : Mod_takeBracket F x1 M = some q) : Met l yX11_takeBracket (wsM yX11_takeBracket cX11_takeBracket 3 (some .int)) (rmM 3 73) (Pre G M [.ref (G.1 + 63), .int x1]) (PoI G q) 0 0 (gA G) := by
  refine r_met (own := RX11) rfl (by decide) (Nat.le_of_ble_eq_true rfl) ?_
  intro p e s m below meth c ls C hr hlk hS hl
  have hl : lv_has ls 3 [(0, .ref (G.1 + 63)), (1, .int x1)] := hl
  obtain ⟨hx, hb, -⟩ := id C
  unfold Mod_takeBracket at h
  refine lv_aload_n hx hb dX11_takeBracket_0 rfl (lv_at hl 0 rfl) ?_
  refine lv_dup hx hb dX11_takeBracket_1 rfl ?_
  refine r_gI C hS fl_X11_136 rfl rfl dX11_takeBracket_2 ?_
  refine lv_iconst (v := 1) hx hb dX11_takeBracket_5 (by decide) ?_
  refine lv_iadd hx hb dX11_takeBracket_6 ?_
  obtain ⟨M_1, e_2, h⟩ := olt h
  refine r_pI C hS fp_X11_136 rfl rfl e_2 dX11_takeBracket_7 (fun H locs hS => ?_)
  refine lv_aload_n hx hb dX11_takeBracket_10 rfl (lv_at hl 0 rfl) ?_
  refine lv_iload_n hx hb dX11_takeBracket_11 rfl (lv_at hl 1 rfl) ?_
  refine lv_iconst (v := 1) hx hb dX11_takeBracket_12 (by decide) ?_
  obtain ⟨⟨r_3, M_4⟩, hq_5, h⟩ := ob h
  try dsimp only at h
  refine r_thenI hS (r_runV C hS hl.1 cv_X11_172 rfl (c_X11_takePart l G F x1 1 M_1  _ hq_5) ⟨by decide, by decide⟩ rfl rfl (Nat.le_of_ble_eq_true rfl) ⟨Nat.zero_le _, Nat.zero_le _⟩ dX11_takeBracket_13) (fun H locs hS => ?_)
  refine lv_istore_n (lv' := [(2, .int r_3), (0, .ref (G.1 + 63)), (1, .int x1)]) hx hb dX11_takeBracket_16 rfl hl (by decide) rfl (fun ls hl => ?_)
  obtain ⟨⟨k_16, x2_14, M_15⟩, hq_17, h⟩ := ob h
  try dsimp only at h
  refine loopW (E := (E_Mod_takeBracket_17 G p l e s m _ below meth c _ x1)) (w_Mod_takeBracket_B17 C x1 F) F _ _ hq_17 ?_ _ _ _ hS (lv_sub hl [1, 2, 0] rfl)
  by_cases ek_23 : k_16 = 1
  · replace h := ifp ek_23 h
    subst ek_23
    intro H locs ls hS hl
    exact w_Mod_takeBracket_J40 C hr hlk F x2_14 M_15  q h _ _ _ hS (lv_sub hl [0, 1] rfl)
  · replace h := ifn ek_23 h
    cases h
def E_Mod_takeForm_149 (G : Gl) (p : Program) (l : Launch) (e : Env) (s : State) (m : MethodId) (args : Array Value) (below : List Frame) (meth : Method) (c : Code) (Q : State → Prop) (x1 : Int32) : Nat → (Int32 × Int32 × zM) → Prop := fun k (x2, x3, M) => match k with
  | 0 => ∀ (H : Heap) (locs : List Loc) (ls : Array Slot), St G M s H locs → lv_has ls 4 [(0, .ref (G.1 + 63)), (1, .int x1), (2, .int x2), (3, .int x3)] → W p l e (rmM 4 95) s m args below meth c H locs 0 0 Q (F0 m 149 ls [])
  | 1 => ∀ (H : Heap) (locs : List Loc) (ls : Array Slot), St G M s H locs → lv_has ls 4 [(2, .int x2)] → W p l e (rmM 4 95) s m args below meth c H locs 0 0 Q (F0 m 195 ls [])
  | _ => True
set_option maxHeartbeats 4000000 in
set_option maxRecDepth 100000 in
theorem w_Mod_takeForm_J166 {G : Gl} {p : Program} {l : Launch} {e : Env} {s : State} {m : MethodId} {args : Array Value} {below : List Frame} {meth : Method} {c : Code} {Q : State → Prop} (C : Cx G cX11_takeForm 4 RX11 p s m args c) (x1 : Int32) (F : Nat)  (M : zM)  (q : Nat × (Int32 × Int32 × zM)) (h : Mod_takeForm_J166 F x1 M = some q) (hE : (E_Mod_takeForm_149 G p l e s m args below meth c Q x1) q.1 q.2) (H : Heap) (locs : List Loc) (ls : Array Slot) (hS : St G M s H locs) (hl : lv_has ls 4 [(0, .ref (G.1 + 63)), (1, .int x1)]) : W p l e (rmM 4 95) s m args below meth c H locs 0 0 Q (F0 m 166 ls []) := by
  obtain ⟨hx, hb, -⟩ := id C
  unfold Mod_takeForm_J166 at h
  refine lv_aload_n hx hb dX11_takeForm_166 rfl (lv_at hl 0 rfl) ?_
  obtain ⟨⟨r_39, M_40⟩, hq_41, h⟩ := ob h
  try dsimp only at h
  refine r_thenI hS (r_runV C hS hl.1 cv_X11_139 rfl (c_X11_here l G F  M  _ hq_41) ⟨by decide, by decide⟩ rfl rfl (Nat.le_of_ble_eq_true rfl) ⟨Nat.zero_le _, Nat.zero_le _⟩ dX11_takeForm_167) (fun H locs hS => ?_)
  refine lv_bipush (v := 91) hx hb dX11_takeForm_170 (by decide) ?_
  refine lv_icmp_ne (tgt := 183) hx hb dX11_takeForm_172 (by decide) (fun c_42 => ?_) (fun c_42 => ?_)
  · replace h := ifn c_42 h
    refine lv_aload_n hx hb dX11_takeForm_183 rfl (lv_at hl 0 rfl) ?_
    refine lv_iload_n hx hb dX11_takeForm_184 rfl (lv_at hl 1 rfl) ?_
    refine lv_iconst (v := 0) hx hb dX11_takeForm_185 (by decide) ?_
    obtain ⟨⟨r_43, M_44⟩, hq_45, h⟩ := ob h
    try dsimp only at h
    refine r_thenI hS (r_runV C hS hl.1 cv_X11_172 rfl (c_X11_takePart l G F x1 0 M_40  _ hq_45) ⟨by decide, by decide⟩ rfl rfl (Nat.le_of_ble_eq_true rfl) ⟨Nat.zero_le _, Nat.zero_le _⟩ dX11_takeForm_186) (fun H locs hS => ?_)
    refine lv_istore_n (lv' := [(2, .int r_43), (0, .ref (G.1 + 63)), (1, .int x1)]) hx hb dX11_takeForm_189 rfl hl (by decide) rfl (fun ls hl => ?_)
    refine lv_iconst (v := 0) hx hb dX11_takeForm_190 (by decide) ?_
    refine lv_istore_n (lv' := [(3, .int 0), (2, .int r_43), (0, .ref (G.1 + 63)), (1, .int x1)]) hx hb dX11_takeForm_191 rfl hl (by decide) rfl (fun ls hl => ?_)
    refine lv_goto (tgt := 149) hx hb dX11_takeForm_192 (by decide) ?_
    obtain rfl := Option.some.inj h
    exact hE _ _ _ hS (lv_sub hl [2, 3, 1, 0] rfl)
  · replace h := ifp c_42 h
    refine lv_aload_n hx hb dX11_takeForm_175 rfl (lv_at hl 0 rfl) ?_
    refine lv_iload_n hx hb dX11_takeForm_176 rfl (lv_at hl 1 rfl) ?_
    obtain ⟨⟨r_46, M_47⟩, hq_48, h⟩ := ob h
    try dsimp only at h
    refine r_thenI hS (r_runV C hS hl.1 cv_X11_182 rfl (c_X11_takeBracket l G F x1 M_40  _ hq_48) ⟨by decide, by decide⟩ rfl rfl (Nat.le_of_ble_eq_true rfl) ⟨Nat.zero_le _, Nat.zero_le _⟩ dX11_takeForm_177) (fun H locs hS => ?_)
    refine lv_goto (tgt := 189) hx hb dX11_takeForm_180 (by decide) ?_
    refine lv_istore_n (lv' := [(2, .int r_46), (0, .ref (G.1 + 63)), (1, .int x1)]) hx hb dX11_takeForm_189 rfl hl (by decide) rfl (fun ls hl => ?_)
    refine lv_iconst (v := 0) hx hb dX11_takeForm_190 (by decide) ?_
    refine lv_istore_n (lv' := [(3, .int 0), (2, .int r_46), (0, .ref (G.1 + 63)), (1, .int x1)]) hx hb dX11_takeForm_191 rfl hl (by decide) rfl (fun ls hl => ?_)
    refine lv_goto (tgt := 149) hx hb dX11_takeForm_192 (by decide) ?_
    obtain rfl := Option.some.inj h
    exact hE _ _ _ hS (lv_sub hl [2, 3, 1, 0] rfl)
set_option maxHeartbeats 4000000 in
set_option maxRecDepth 100000 in
theorem w_Mod_takeForm_B149 {G : Gl} {p : Program} {l : Launch} {e : Env} {s : State} {m : MethodId} {args : Array Value} {below : List Frame} {meth : Method} {c : Code} {Q : State → Prop} (C : Cx G cX11_takeForm 4 RX11 p s m args c) (x1 : Int32) (F : Nat) : ∀ (σ : (Int32 × Int32 × zM)) (q : Nat × (Int32 × Int32 × zM)), Mod_takeForm_B149 F x1 σ = some q → (E_Mod_takeForm_149 G p l e s m args below meth c Q x1) q.1 q.2 → (E_Mod_takeForm_149 G p l e s m args below meth c Q x1) 0 σ := by
  intro (x2, x3, M) q h hE H locs ls hS hl
  obtain ⟨hx, hb, -⟩ := id C
  unfold Mod_takeForm_B149 at h
  try dsimp only at h
  refine lv_iload_n hx hb dX11_takeForm_149 rfl (lv_at hl 2 rfl) ?_
  refine lv_if_ne (tgt := 195) hx hb dX11_takeForm_150 (by decide) (fun c_37 => ?_) (fun c_37 => ?_)
  · replace h := ifn c_37 h
    obtain rfl := Option.some.inj h
    exact hE _ _ _ hS (lv_sub hl [2] rfl)
  · replace h := ifp c_37 h
    refine lv_iload_n hx hb dX11_takeForm_153 rfl (lv_at hl 3 rfl) ?_
    refine lv_if_ne (tgt := 166) hx hb dX11_takeForm_154 (by decide) (fun c_38 => ?_) (fun c_38 => ?_)
    · replace h := ifn c_38 h
      exact w_Mod_takeForm_J166 C x1 F  M  q h hE _ _ _ hS (lv_sub hl [0, 1] rfl)
    · replace h := ifp c_38 h
      refine lv_aload_n hx hb dX11_takeForm_157 rfl (lv_at hl 0 rfl) ?_
      obtain ⟨⟨r_49, M_50⟩, hq_51, h⟩ := ob h
      try dsimp only at h
      refine r_thenI hS (r_runV C hS hl.1 cv_X11_139 rfl (c_X11_here l G F  M  _ hq_51) ⟨by decide, by decide⟩ rfl rfl (Nat.le_of_ble_eq_true rfl) ⟨Nat.zero_le _, Nat.zero_le _⟩ dX11_takeForm_158) (fun H locs hS => ?_)
      refine lv_bipush (v := 59) hx hb dX11_takeForm_161 (by decide) ?_
      refine lv_icmp_eq (tgt := 195) hx hb dX11_takeForm_163 (by decide) (fun c_52 => ?_) (fun c_52 => ?_)
      · replace h := ifp c_52 h
        obtain rfl := Option.some.inj h
        exact hE _ _ _ hS (lv_sub hl [2] rfl)
      · replace h := ifn c_52 h
        exact w_Mod_takeForm_J166 C x1 F  M_50  q h hE _ _ _ hS (lv_sub hl [0, 1] rfl)
set_option maxHeartbeats 4000000 in
set_option maxRecDepth 100000 in
theorem w_Mod_takeForm_J101 {G : Gl} {p : Program} {l : Launch} {e : Env} {s : State} {m : MethodId} {args : Array Value} {below : List Frame} {meth : Method} {c : Code} (C : Cx G cX11_takeForm 4 RX11 p s m args c) (hr : meth.sig.returnType = (some .int)) (hlk : meth.locks = false) (F : Nat) (x1 : Int32) (y0 : Int32) (M : zM)  (q : Int32 × zM) (h : Mod_takeForm_J101 F x1 y0 M = some q) (H : Heap) (locs : List Loc) (ls : Array Slot) (hS : St G M s H locs) (hl : lv_has ls 4 [(0, .ref (G.1 + 63)), (1, .int x1)]) : W p l e (rmM 4 95) s m args below meth c H locs 0 0 (MQ below (PoI G q) args s 0 0 (gA G)) (F0 m 101 ls [.int y0]) := by
  obtain ⟨hx, hb, -⟩ := id C
  unfold Mod_takeForm_J101 at h
  refine lv_istore_n (lv' := [(2, .int y0), (0, .ref (G.1 + 63)), (1, .int x1)]) hx hb dX11_takeForm_101 rfl hl (by decide) rfl (fun ls hl => ?_)
  refine lv_aload_n hx hb dX11_takeForm_102 rfl (lv_at hl 1 rfl) ?_
  refine r_gR C hS fl_X11_73 rfl rfl rfl dX11_takeForm_103 ?_
  refine lv_iload_n hx hb dX11_takeForm_106 rfl (lv_at hl 2 rfl) ?_
  refine lv_aload_n hx hb dX11_takeForm_107 rfl (lv_at hl 1 rfl) ?_
  refine r_gI C hS fl_X11_154 rfl rfl dX11_takeForm_108 ?_
  obtain ⟨b_27, h⟩ := ift h
  obtain ⟨M_28, e_29, h⟩ := olt h
  refine r_iast C hS rfl rfl b_27 e_29 dX11_takeForm_111 (fun H locs hS => ?_)
  refine lv_iload_n hx hb dX11_takeForm_112 rfl (lv_at hl 0 rfl) ?_
  refine lv_if_le (tgt := 118) hx hb dX11_takeForm_113 (by decide) (fun c_30 => ?_) (fun c_30 => ?_)
  · replace h := ifp c_30 h
    refine lv_aload_n hx hb dX11_takeForm_118 rfl (lv_at hl 1 rfl) ?_
    obtain ⟨⟨r_31, M_32⟩, hq_33, h⟩ := ob h
    try dsimp only at h
    refine r_thenI hS (r_runV C hS hl.1 cv_X11_139 rfl (c_X11_here l G F  M_28  _ hq_33) ⟨by decide, by decide⟩ rfl rfl (Nat.le_of_ble_eq_true rfl) ⟨Nat.zero_le _, Nat.zero_le _⟩ dX11_takeForm_119) (fun H locs hS => ?_)
    refine lv_bipush (v := 58) hx hb dX11_takeForm_122 (by decide) ?_
    refine lv_icmp_eq (tgt := 137) hx hb dX11_takeForm_124 (by decide) (fun c_34 => ?_) (fun c_34 => ?_)
    · replace h := ifp c_34 h
      refine lv_aload_n hx hb dX11_takeForm_137 rfl (lv_at hl 1 rfl) ?_
      refine lv_dup hx hb dX11_takeForm_138 rfl ?_
      refine r_gI C hS fl_X11_136 rfl rfl dX11_takeForm_139 ?_
      refine lv_iconst (v := 1) hx hb dX11_takeForm_142 (by decide) ?_
      refine lv_iadd hx hb dX11_takeForm_143 ?_
      obtain ⟨M_35, e_36, h⟩ := olt h
      refine r_pI C hS fp_X11_136 rfl rfl e_36 dX11_takeForm_144 (fun H locs hS => ?_)
      refine lv_iconst (v := 1) hx hb dX11_takeForm_147 (by decide) ?_
      refine lv_istore_n (lv' := [(3, .int 1), (2, .int y0), (0, .ref (G.1 + 63)), (1, .int x1)]) hx hb dX11_takeForm_148 rfl hl (by decide) rfl (fun ls hl => ?_)
      obtain ⟨⟨k_56, x2_53, x3_54, M_55⟩, hq_57, h⟩ := ob h
      try dsimp only at h
      refine loopW (E := (E_Mod_takeForm_149 G p l e s m _ below meth c _ x1)) (w_Mod_takeForm_B149 C x1 F) F _ _ hq_57 ?_ _ _ _ hS (lv_sub hl [2, 3, 1, 0] rfl)
      by_cases ek_58 : k_56 = 1
      · replace h := ifp ek_58 h
        subst ek_58
        intro H locs ls hS hl
        refine lv_iload_n hx hb dX11_takeForm_195 rfl (lv_at hl 0 rfl) ?_
        exact r_iret C hS hr hlk h dX11_takeForm_196
      · replace h := ifn ek_58 h
        cases h
    · replace h := ifn c_34 h
      refine lv_aload_n hx hb dX11_takeForm_127 rfl (lv_at hl 1 rfl) ?_
      refine lv_iconst (v := 1) hx hb dX11_takeForm_128 (by decide) ?_
      refine lv_aload_n hx hb dX11_takeForm_129 rfl (lv_at hl 1 rfl) ?_
      refine r_gI C hS fl_X11_136 rfl rfl dX11_takeForm_130 ?_
      obtain ⟨⟨r_59, M_60⟩, hq_61, h⟩ := ob h
      try dsimp only at h
      refine r_thenI hS (r_runV C hS hl.1 cv_X11_147 rfl (c_X11_fails l G F 1 (M_32.1 63 18) M_32  _ hq_61) ⟨by decide, by decide⟩ rfl rfl (Nat.le_of_ble_eq_true rfl) ⟨Nat.zero_le _, Nat.zero_le _⟩ dX11_takeForm_133) (fun H locs hS => ?_)
      exact r_iret C hS hr hlk h dX11_takeForm_136
  · replace h := ifn c_30 h
    refine lv_iload_n hx hb dX11_takeForm_116 rfl (lv_at hl 0 rfl) ?_
    exact r_iret C hS hr hlk h dX11_takeForm_117
set_option maxHeartbeats 4000000 in
set_option maxRecDepth 100000 in
theorem w_Mod_takeForm_J84 {G : Gl} {p : Program} {l : Launch} {e : Env} {s : State} {m : MethodId} {args : Array Value} {below : List Frame} {meth : Method} {c : Code} (C : Cx G cX11_takeForm 4 RX11 p s m args c) (hr : meth.sig.returnType = (some .int)) (hlk : meth.locks = false) (F : Nat) (x1 : Int32) (y0 : Int32) (M : zM)  (q : Int32 × zM) (h : Mod_takeForm_J84 F x1 y0 M = some q) (H : Heap) (locs : List Loc) (ls : Array Slot) (hS : St G M s H locs) (hl : lv_has ls 4 [(0, .ref (G.1 + 63)), (1, .int x1)]) : W p l e (rmM 4 95) s m args below meth c H locs 0 0 (MQ below (PoI G q) args s 0 0 (gA G)) (F0 m 84 ls [.int y0]) := by
  obtain ⟨hx, hb, -⟩ := id C
  unfold Mod_takeForm_J84 at h
  refine lv_istore_n (lv' := [(2, .int y0), (0, .ref (G.1 + 63)), (1, .int x1)]) hx hb dX11_takeForm_84 rfl hl (by decide) rfl (fun ls hl => ?_)
  refine lv_iload_n hx hb dX11_takeForm_85 rfl (lv_at hl 0 rfl) ?_
  refine lv_if_le (tgt := 93) hx hb dX11_takeForm_86 (by decide) (fun c_23 => ?_) (fun c_23 => ?_)
  · replace h := ifp c_23 h
    refine lv_aload_n hx hb dX11_takeForm_93 rfl (lv_at hl 1 rfl) ?_
    refine lv_iconst (v := 2) hx hb dX11_takeForm_94 (by decide) ?_
    refine lv_sipush (v := 500) hx hb dX11_takeForm_95 (by decide) ?_
    obtain ⟨⟨r_24, M_25⟩, hq_26, h⟩ := ob h
    try dsimp only at h
    refine r_thenI hS (r_runV C hS hl.1 cv_X11_176 rfl (c_X11_takeNumber l G F 2 500 M  _ hq_26) ⟨by decide, by decide⟩ rfl rfl (Nat.le_of_ble_eq_true rfl) ⟨Nat.zero_le _, Nat.zero_le _⟩ dX11_takeForm_98) (fun H locs hS => ?_)
    exact w_Mod_takeForm_J101 C hr hlk F x1 r_24 M_25  q h _ _ _ hS (lv_sub hl [1, 2] rfl)
  · replace h := ifn c_23 h
    refine lv_iload_n hx hb dX11_takeForm_89 rfl (lv_at hl 0 rfl) ?_
    refine lv_goto (tgt := 101) hx hb dX11_takeForm_90 (by decide) ?_
    exact w_Mod_takeForm_J101 C hr hlk F x1 y0 M  q h _ _ _ hS (lv_sub hl [1, 2] rfl)
set_option maxHeartbeats 4000000 in
set_option maxRecDepth 100000 in
theorem w_Mod_takeForm_J57 {G : Gl} {p : Program} {l : Launch} {e : Env} {s : State} {m : MethodId} {args : Array Value} {below : List Frame} {meth : Method} {c : Code} (C : Cx G cX11_takeForm 4 RX11 p s m args c) (hr : meth.sig.returnType = (some .int)) (hlk : meth.locks = false) (F : Nat) (x1 : Int32) (y0 : Int32) (M : zM)  (q : Int32 × zM) (h : Mod_takeForm_J57 F x1 y0 M = some q) (H : Heap) (locs : List Loc) (ls : Array Slot) (hS : St G M s H locs) (hl : lv_has ls 4 [(0, .ref (G.1 + 63)), (1, .int x1)]) : W p l e (rmM 4 95) s m args below meth c H locs 0 0 (MQ below (PoI G q) args s 0 0 (gA G)) (F0 m 57 ls [.int y0]) := by
  obtain ⟨hx, hb, -⟩ := id C
  unfold Mod_takeForm_J57 at h
  refine lv_istore_n (lv' := [(2, .int y0), (0, .ref (G.1 + 63)), (1, .int x1)]) hx hb dX11_takeForm_57 rfl hl (by decide) rfl (fun ls hl => ?_)
  refine lv_aload_n hx hb dX11_takeForm_58 rfl (lv_at hl 1 rfl) ?_
  refine r_gR C hS fl_X11_70 rfl rfl rfl dX11_takeForm_59 ?_
  refine lv_iload_n hx hb dX11_takeForm_62 rfl (lv_at hl 2 rfl) ?_
  refine lv_aload_n hx hb dX11_takeForm_63 rfl (lv_at hl 1 rfl) ?_
  refine r_gI C hS fl_X11_154 rfl rfl dX11_takeForm_64 ?_
  obtain ⟨b_16, h⟩ := ift h
  obtain ⟨M_17, e_18, h⟩ := olt h
  refine r_iast C hS rfl rfl b_16 e_18 dX11_takeForm_67 (fun H locs hS => ?_)
  refine lv_iload_n hx hb dX11_takeForm_68 rfl (lv_at hl 0 rfl) ?_
  refine lv_if_le (tgt := 76) hx hb dX11_takeForm_69 (by decide) (fun c_19 => ?_) (fun c_19 => ?_)
  · replace h := ifp c_19 h
    refine lv_aload_n hx hb dX11_takeForm_76 rfl (lv_at hl 1 rfl) ?_
    refine lv_bipush (v := 98) hx hb dX11_takeForm_77 (by decide) ?_
    refine lv_bipush (v := 121) hx hb dX11_takeForm_79 (by decide) ?_
    obtain ⟨⟨r_20, M_21⟩, hq_22, h⟩ := ob h
    try dsimp only at h
    refine r_thenI hS (r_runV C hS hl.1 cv_X11_179 rfl (c_X11_needs l G F 98 121 M_17  _ hq_22) ⟨by decide, by decide⟩ rfl rfl (Nat.le_of_ble_eq_true rfl) ⟨Nat.zero_le _, Nat.zero_le _⟩ dX11_takeForm_81) (fun H locs hS => ?_)
    exact w_Mod_takeForm_J84 C hr hlk F x1 r_20 M_21  q h _ _ _ hS (lv_sub hl [1, 2] rfl)
  · replace h := ifn c_19 h
    refine lv_iload_n hx hb dX11_takeForm_72 rfl (lv_at hl 0 rfl) ?_
    refine lv_goto (tgt := 84) hx hb dX11_takeForm_73 (by decide) ?_
    exact w_Mod_takeForm_J84 C hr hlk F x1 y0 M_17  q h _ _ _ hS (lv_sub hl [1, 2] rfl)
set_option maxHeartbeats 4000000 in
set_option maxRecDepth 100000 in
theorem w_Mod_takeForm_J35 {G : Gl} {p : Program} {l : Launch} {e : Env} {s : State} {m : MethodId} {args : Array Value} {below : List Frame} {meth : Method} {c : Code} (C : Cx G cX11_takeForm 4 RX11 p s m args c) (hr : meth.sig.returnType = (some .int)) (hlk : meth.locks = false) (F : Nat) (x1 : Int32) (y0 : Int32) (M : zM)  (q : Int32 × zM) (h : Mod_takeForm_J35 F x1 y0 M = some q) (H : Heap) (locs : List Loc) (ls : Array Slot) (hS : St G M s H locs) (hl : lv_has ls 4 [(0, .ref (G.1 + 63)), (1, .int x1)]) : W p l e (rmM 4 95) s m args below meth c H locs 0 0 (MQ below (PoI G q) args s 0 0 (gA G)) (F0 m 35 ls [.int y0]) := by
  obtain ⟨hx, hb, -⟩ := id C
  unfold Mod_takeForm_J35 at h
  refine lv_istore_n (lv' := [(2, .int y0), (0, .ref (G.1 + 63)), (1, .int x1)]) hx hb dX11_takeForm_35 rfl hl (by decide) rfl (fun ls hl => ?_)
  refine lv_iload_n hx hb dX11_takeForm_36 rfl (lv_at hl 0 rfl) ?_
  refine lv_if_le (tgt := 44) hx hb dX11_takeForm_37 (by decide) (fun c_11 => ?_) (fun c_11 => ?_)
  · replace h := ifp c_11 h
    refine lv_aload_n hx hb dX11_takeForm_44 rfl (lv_at hl 1 rfl) ?_
    refine lv_aload_n hx hb dX11_takeForm_45 rfl (lv_at hl 1 rfl) ?_
    refine r_gR C hS fl_X11_67 rfl rfl rfl dX11_takeForm_46 ?_
    refine lv_iload_n hx hb dX11_takeForm_49 rfl (lv_at hl 2 rfl) ?_
    obtain ⟨b_12, h⟩ := ift h
    refine r_iald C hS rfl rfl b_12 dX11_takeForm_50 ?_
    refine lv_sipush (v := 999) hx hb dX11_takeForm_51 (by decide) ?_
    obtain ⟨⟨r_13, M_14⟩, hq_15, h⟩ := ob h
    try dsimp only at h
    refine r_thenI hS (r_runV C hS hl.1 cv_X11_176 rfl (c_X11_takeNumber l G F (M.1 81 x1.toNatClampNeg) 999 M  _ hq_15) ⟨by decide, by decide⟩ rfl rfl (Nat.le_of_ble_eq_true rfl) ⟨Nat.zero_le _, Nat.zero_le _⟩ dX11_takeForm_54) (fun H locs hS => ?_)
    exact w_Mod_takeForm_J57 C hr hlk F x1 r_13 M_14  q h _ _ _ hS (lv_sub hl [1, 2] rfl)
  · replace h := ifn c_11 h
    refine lv_iload_n hx hb dX11_takeForm_40 rfl (lv_at hl 0 rfl) ?_
    refine lv_goto (tgt := 57) hx hb dX11_takeForm_41 (by decide) ?_
    exact w_Mod_takeForm_J57 C hr hlk F x1 y0 M  q h _ _ _ hS (lv_sub hl [1, 2] rfl)
set_option maxHeartbeats 4000000 in
set_option maxRecDepth 100000 in
theorem c_X11_takeForm (l : Launch) (G : Gl) (F : Nat) (x1 : Int32) (M : zM)  (q : Int32 × zM) (h : Mod_takeForm F x1 M = some q) : Met l yX11_takeForm (wsM yX11_takeForm cX11_takeForm 4 (some .int)) (rmM 4 95) (Pre G M [.ref (G.1 + 63), .int x1]) (PoI G q) 0 0 (gA G) := by
  refine r_met (own := RX11) rfl (by decide) (Nat.le_of_ble_eq_true rfl) ?_
  intro p e s m below meth c ls C hr hlk hS hl
  have hl : lv_has ls 4 [(0, .ref (G.1 + 63)), (1, .int x1)] := hl
  obtain ⟨hx, hb, -⟩ := id C
  unfold Mod_takeForm at h
  refine lv_aload_n hx hb dX11_takeForm_0 rfl (lv_at hl 0 rfl) ?_
  refine lv_iconst (v := 0) hx hb dX11_takeForm_1 (by decide) ?_
  refine lv_sipush (v := 999) hx hb dX11_takeForm_2 (by decide) ?_
  obtain ⟨⟨r_1, M_2⟩, hq_3, h⟩ := ob h
  try dsimp only at h
  refine r_thenI hS (r_runV C hS hl.1 cv_X11_176 rfl (c_X11_takeNumber l G F 0 999 M  _ hq_3) ⟨by decide, by decide⟩ rfl rfl (Nat.le_of_ble_eq_true rfl) ⟨Nat.zero_le _, Nat.zero_le _⟩ dX11_takeForm_5) (fun H locs hS => ?_)
  refine lv_istore_n (lv' := [(2, .int r_1), (0, .ref (G.1 + 63)), (1, .int x1)]) hx hb dX11_takeForm_8 rfl hl (by decide) rfl (fun ls hl => ?_)
  refine lv_aload_n hx hb dX11_takeForm_9 rfl (lv_at hl 1 rfl) ?_
  refine r_gR C hS fl_X11_67 rfl rfl rfl dX11_takeForm_10 ?_
  refine lv_iload_n hx hb dX11_takeForm_13 rfl (lv_at hl 2 rfl) ?_
  refine lv_aload_n hx hb dX11_takeForm_14 rfl (lv_at hl 1 rfl) ?_
  refine r_gI C hS fl_X11_154 rfl rfl dX11_takeForm_15 ?_
  obtain ⟨b_4, h⟩ := ift h
  obtain ⟨M_5, e_6, h⟩ := olt h
  refine r_iast C hS rfl rfl b_4 e_6 dX11_takeForm_18 (fun H locs hS => ?_)
  refine lv_iload_n hx hb dX11_takeForm_19 rfl (lv_at hl 0 rfl) ?_
  refine lv_if_le (tgt := 27) hx hb dX11_takeForm_20 (by decide) (fun c_7 => ?_) (fun c_7 => ?_)
  · replace h := ifp c_7 h
    refine lv_aload_n hx hb dX11_takeForm_27 rfl (lv_at hl 1 rfl) ?_
    refine lv_bipush (v := 116) hx hb dX11_takeForm_28 (by decide) ?_
    refine lv_bipush (v := 111) hx hb dX11_takeForm_30 (by decide) ?_
    obtain ⟨⟨r_8, M_9⟩, hq_10, h⟩ := ob h
    try dsimp only at h
    refine r_thenI hS (r_runV C hS hl.1 cv_X11_179 rfl (c_X11_needs l G F 116 111 M_5  _ hq_10) ⟨by decide, by decide⟩ rfl rfl (Nat.le_of_ble_eq_true rfl) ⟨Nat.zero_le _, Nat.zero_le _⟩ dX11_takeForm_32) (fun H locs hS => ?_)
    exact w_Mod_takeForm_J35 C hr hlk F x1 r_8 M_9  q h _ _ _ hS (lv_sub hl [1, 2] rfl)
  · replace h := ifn c_7 h
    refine lv_iload_n hx hb dX11_takeForm_23 rfl (lv_at hl 0 rfl) ?_
    refine lv_goto (tgt := 35) hx hb dX11_takeForm_24 (by decide) ?_
    exact w_Mod_takeForm_J35 C hr hlk F x1 r_1 M_5  q h _ _ _ hS (lv_sub hl [1, 2] rfl)

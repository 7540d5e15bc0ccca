def E_Mod_nearest_43 (G : Gl) (p : Program) (l : Launch) (e : Env) (s : State) (m : MethodId) (args : Array Value) (below : List Frame) (meth : Method) (c : Code) (Q : State → Prop) (x1 : Int32) (x2 : Int32) (x5 : Int32) : Nat → (Int32 × Int32 × Int32 × zM) → Prop := fun k (x3, x4, x6, M) => match k with
  | 0 => ∀ (H : Heap) (locs : List Loc) (ls : Array Slot), St G M s H locs → lv_has ls 8 [(0, .ref (G.1 + 63)), (1, .int x1), (2, .int x2), (3, .int x3), (4, .int x4), (5, .int x5), (6, .int x6)] → W p l e (rmM 2 49) s m args below meth c H locs 0 0 Q (F0 m 43 ls [])
  | 1 => ∀ (H : Heap) (locs : List Loc) (ls : Array Slot), St G M s H locs → lv_has ls 8 [(2, .int x2), (3, .int x3), (4, .int x4)] → W p l e (rmM 2 49) s m args below meth c H locs 0 0 Q (F0 m 110 ls [])
  | _ => True
set_option maxHeartbeats 4000000 in
set_option maxRecDepth 100000 in
theorem w_Mod_nearest_B43 {G : Gl} {p : Program} {l : Launch} {e : Env} {s : State} {m : MethodId} {args : Array Value} {below : List Frame} {meth : Method} {c : Code} {Q : State → Prop} (C : Cx G cX11_nearest 8 RX11 p s m args c) (x1 : Int32) (x2 : Int32) (x5 : Int32) (F : Nat) : ∀ (σ : (Int32 × Int32 × Int32 × zM)) (q : Nat × (Int32 × Int32 × Int32 × zM)), Mod_nearest_B43 F x1 x2 x5 σ = some q → (E_Mod_nearest_43 G p l e s m args below meth c Q x1 x2 x5) q.1 q.2 → (E_Mod_nearest_43 G p l e s m args below meth c Q x1 x2 x5) 0 σ := by
  intro (x3, x4, x6, M) q h hE H locs ls hS hl
  obtain ⟨hx, hb, -⟩ := id C
  unfold Mod_nearest_B43 at h
  try dsimp only at h
  refine lv_iload hx hb dX11_nearest_43 (lv_at hl 6 rfl) ?_
  refine lv_sipush (v := 1000) hx hb dX11_nearest_45 (by decide) ?_
  refine lv_icmp_ge (tgt := 110) hx hb dX11_nearest_48 (by decide) (fun c_12 => ?_) (fun c_12 => ?_)
  · replace h := ifp c_12 h
    obtain rfl := Option.some.inj h
    exact hE _ _ _ hS (lv_sub hl [2, 3, 4] rfl)
  · replace h := ifn c_12 h
    refine lv_aload_n hx hb dX11_nearest_51 rfl (lv_at hl 0 rfl) ?_
    refine r_gR C hS fl_X11_41 rfl rfl rfl dX11_nearest_52 ?_
    refine lv_sipush (v := 1000) hx hb dX11_nearest_55 (by decide) ?_
    refine lv_iload_n hx hb dX11_nearest_58 rfl (lv_at hl 1 rfl) ?_
    refine lv_imul hx hb dX11_nearest_59 ?_
    refine lv_iload hx hb dX11_nearest_60 (lv_at hl 6 rfl) ?_
    refine lv_iadd hx hb dX11_nearest_62 ?_
    obtain ⟨b_13, h⟩ := ift h
    refine r_iald C hS rfl rfl b_13 dX11_nearest_63 ?_
    refine lv_if_lt (tgt := 104) hx hb dX11_nearest_64 (by decide) (fun c_14 => ?_) (fun c_14 => ?_)
    · replace h := ifp c_14 h
      obtain ⟨x6_15, e_16, h⟩ := olt h
      refine lv_iinc (v := x6_15) (lv' := [(6, .int x6_15), (0, .ref (G.1 + 63)), (1, .int x1), (2, .int x2), (3, .int x3), (4, .int x4), (5, .int x5)]) hx hb dX11_nearest_104 hl (k := 6) rfl (by rw [e_16]; rfl) (by decide) rfl (fun ls hl => ?_)
      refine lv_goto (tgt := 43) hx hb dX11_nearest_107 (by decide) ?_
      obtain rfl := Option.some.inj h
      exact hE _ _ _ hS (lv_sub hl [1, 2, 3, 4, 5, 6, 0] rfl)
    · replace h := ifn c_14 h
      refine lv_aload_n hx hb dX11_nearest_67 rfl (lv_at hl 0 rfl) ?_
      refine lv_aload_n hx hb dX11_nearest_68 rfl (lv_at hl 0 rfl) ?_
      refine lv_iload_n hx hb dX11_nearest_69 rfl (lv_at hl 1 rfl) ?_
      refine lv_iload hx hb dX11_nearest_70 (lv_at hl 6 rfl) ?_
      refine lv_aload_n hx hb dX11_nearest_72 rfl (lv_at hl 0 rfl) ?_
      refine r_gR C hS fl_X11_100 rfl rfl rfl dX11_nearest_73 ?_
      obtain ⟨⟨r_17, M_18⟩, hq_19, h⟩ := ob h
      try dsimp only at h
      refine r_thenI hS (r_runV C hS hl.1 cv_X11_265 rfl (c_X11_runOf l G F x1 x6 92 M rfl _ hq_19) ⟨by decide, by decide⟩ rfl rfl (Nat.le_of_ble_eq_true rfl) ⟨Nat.zero_le _, Nat.zero_le _⟩ dX11_nearest_76) (fun H locs hS => ?_)
      refine lv_iload hx hb dX11_nearest_79 (lv_at hl 5 rfl) ?_
      obtain ⟨⟨r_20, M_21⟩, hq_22, h⟩ := ob h
      try dsimp only at h
      refine r_thenI hS (r_runV C hS hl.1 cv_X11_289 rfl (c_X11_distance l G F r_17 x5 M_18  _ hq_22) ⟨by decide, by decide⟩ rfl rfl (Nat.le_of_ble_eq_true rfl) ⟨Nat.zero_le _, Nat.zero_le _⟩ dX11_nearest_81) (fun H locs hS => ?_)
      refine lv_istore (lv' := [(7, .int r_20), (0, .ref (G.1 + 63)), (1, .int x1), (2, .int x2), (3, .int x3), (4, .int x4), (5, .int x5), (6, .int x6)]) hx hb dX11_nearest_84 hl (by decide) rfl (fun ls hl => ?_)
      refine lv_iload_n hx hb dX11_nearest_86 rfl (lv_at hl 4 rfl) ?_
      refine lv_if_lt (tgt := 97) hx hb dX11_nearest_87 (by decide) (fun c_23 => ?_) (fun c_23 => ?_)
      · replace h := ifp c_23 h
        refine lv_iload hx hb dX11_nearest_97 (lv_at hl 7 rfl) ?_
        refine lv_istore_n (lv' := [(3, .int x6), (7, .int r_20), (0, .ref (G.1 + 63)), (1, .int x1), (2, .int x2), (4, .int x4), (5, .int x5), (6, .int x6)]) hx hb dX11_nearest_99 rfl hl (by decide) rfl (fun ls hl => ?_)
        refine lv_iload hx hb dX11_nearest_100 (lv_at hl 1 rfl) ?_
        refine lv_istore (lv' := [(4, .int r_20), (3, .int x6), (7, .int r_20), (0, .ref (G.1 + 63)), (1, .int x1), (2, .int x2), (5, .int x5), (6, .int x6)]) hx hb dX11_nearest_102 hl (by decide) rfl (fun ls hl => ?_)
        obtain ⟨x6_24, e_25, h⟩ := olt h
        refine lv_iinc (v := x6_24) (lv' := [(6, .int x6_24), (4, .int r_20), (3, .int x6), (7, .int r_20), (0, .ref (G.1 + 63)), (1, .int x1), (2, .int x2), (5, .int x5)]) hx hb dX11_nearest_104 hl (k := 7) rfl (by rw [e_25]; rfl) (by decide) rfl (fun ls hl => ?_)
        refine lv_goto (tgt := 43) hx hb dX11_nearest_107 (by decide) ?_
        obtain rfl := Option.some.inj h
        exact hE _ _ _ hS (lv_sub hl [4, 5, 6, 2, 1, 7, 0] rfl)
      · replace h := ifn c_23 h
        refine lv_iload hx hb dX11_nearest_90 (lv_at hl 0 rfl) ?_
        refine lv_iload hx hb dX11_nearest_92 (lv_at hl 5 rfl) ?_
        refine lv_icmp_ge (tgt := 104) hx hb dX11_nearest_94 (by decide) (fun c_26 => ?_) (fun c_26 => ?_)
        · replace h := ifp c_26 h
          obtain ⟨x6_27, e_28, h⟩ := olt h
          refine lv_iinc (v := x6_27) (lv' := [(6, .int x6_27), (7, .int r_20), (0, .ref (G.1 + 63)), (1, .int x1), (2, .int x2), (3, .int x3), (4, .int x4), (5, .int x5)]) hx hb dX11_nearest_104 hl (k := 7) rfl (by rw [e_28]; rfl) (by decide) rfl (fun ls hl => ?_)
          refine lv_goto (tgt := 43) hx hb dX11_nearest_107 (by decide) ?_
          obtain rfl := Option.some.inj h
          exact hE _ _ _ hS (lv_sub hl [2, 3, 4, 5, 6, 7, 0] rfl)
        · replace h := ifn c_26 h
          refine lv_iload hx hb dX11_nearest_97 (lv_at hl 7 rfl) ?_
          refine lv_istore_n (lv' := [(3, .int x6), (7, .int r_20), (0, .ref (G.1 + 63)), (1, .int x1), (2, .int x2), (4, .int x4), (5, .int x5), (6, .int x6)]) hx hb dX11_nearest_99 rfl hl (by decide) rfl (fun ls hl => ?_)
          refine lv_iload hx hb dX11_nearest_100 (lv_at hl 1 rfl) ?_
          refine lv_istore (lv' := [(4, .int r_20), (3, .int x6), (7, .int r_20), (0, .ref (G.1 + 63)), (1, .int x1), (2, .int x2), (5, .int x5), (6, .int x6)]) hx hb dX11_nearest_102 hl (by decide) rfl (fun ls hl => ?_)
          obtain ⟨x6_29, e_30, h⟩ := olt h
          refine lv_iinc (v := x6_29) (lv' := [(6, .int x6_29), (4, .int r_20), (3, .int x6), (7, .int r_20), (0, .ref (G.1 + 63)), (1, .int x1), (2, .int x2), (5, .int x5)]) hx hb dX11_nearest_104 hl (k := 7) rfl (by rw [e_30]; rfl) (by decide) rfl (fun ls hl => ?_)
          refine lv_goto (tgt := 43) hx hb dX11_nearest_107 (by decide) ?_
          obtain rfl := Option.some.inj h
          exact hE _ _ _ hS (lv_sub hl [4, 5, 6, 2, 1, 7, 0] rfl)
set_option maxHeartbeats 4000000 in
set_option maxRecDepth 100000 in
theorem c_X11_nearest (l : Launch) (G : Gl) (F : Nat) (x1 : Int32) (x2 : Int32) (M : zM)  (q : Int32 × zM) (h : Mod_nearest F x1 x2 M = some q) : Met l yX11_nearest (wsM yX11_nearest cX11_nearest 8 (some .int)) (rmM 2 49) (Pre G M [.ref (G.1 + 63), .int x1, .int x2]) (PoI G q) 0 0 (gA G) := by
  refine r_met (own := RX11) rfl (by decide) (Nat.le_of_ble_eq_true rfl) ?_
  intro p e s m below meth c ls C hr hlk hS hl
  have hl : lv_has ls 8 [(0, .ref (G.1 + 63)), (1, .int x1), (2, .int x2)] := hl
  obtain ⟨hx, hb, -⟩ := id C
  unfold Mod_nearest at h
  refine lv_iload_n hx hb dX11_nearest_0 rfl (lv_at hl 1 rfl) ?_
  obtain ⟨⟨r_1, M_2⟩, hq_3, h⟩ := ob h
  try dsimp only at h
  refine r_thenI hS (r_runS C hS hl.1 cs_X11_194 (c_X11_isTongue l G F x1 M  _ hq_3) ⟨by decide, by decide⟩ rfl rfl (Nat.le_of_ble_eq_true rfl) ⟨Nat.zero_le _, Nat.zero_le _⟩ dX11_nearest_1) (fun H locs hS => ?_)
  refine lv_if_ne (tgt := 11) hx hb dX11_nearest_4 (by decide) (fun c_4 => ?_) (fun c_4 => ?_)
  · replace h := ifn c_4 h
    refine lv_iload_n hx hb dX11_nearest_11 rfl (lv_at hl 2 rfl) ?_
    refine lv_i2l (v := x2.toInt64) hx hb dX11_nearest_12 rfl ?_
    refine lv_lconst (v := 0) hx hb dX11_nearest_13 (by decide) ?_
    refine lv_lconst (v := 1) hx hb dX11_nearest_14 (by decide) ?_
    obtain ⟨⟨r_5, M_6⟩, hq_7, h⟩ := ob h
    try dsimp only at h
    refine r_thenI hS (r_runS C hS hl.1 cs_X11_123 (c_X11_in l G F x2.toInt64 0 1 M_2  _ hq_7) ⟨by decide, by decide⟩ rfl rfl (Nat.le_of_ble_eq_true rfl) ⟨Nat.zero_le _, Nat.zero_le _⟩ dX11_nearest_15) (fun H locs hS => ?_)
    refine lv_if_ne (tgt := 25) hx hb dX11_nearest_18 (by decide) (fun c_8 => ?_) (fun c_8 => ?_)
    · replace h := ifn c_8 h
      refine lv_iconst (v := (-1)) hx hb dX11_nearest_25 (by decide) ?_
      refine lv_istore_n (lv' := [(3, .int (-1)), (0, .ref (G.1 + 63)), (1, .int x1), (2, .int x2)]) hx hb dX11_nearest_26 rfl hl (by decide) rfl (fun ls hl => ?_)
      refine lv_iconst (v := (-1)) hx hb dX11_nearest_27 (by decide) ?_
      refine lv_istore (lv' := [(4, .int (-1)), (3, .int (-1)), (0, .ref (G.1 + 63)), (1, .int x1), (2, .int x2)]) hx hb dX11_nearest_28 hl (by decide) rfl (fun ls hl => ?_)
      refine lv_aload_n hx hb dX11_nearest_30 rfl (lv_at hl 2 rfl) ?_
      refine lv_aload_n hx hb dX11_nearest_31 rfl (lv_at hl 2 rfl) ?_
      refine r_gR C hS fl_X11_103 rfl rfl rfl dX11_nearest_32 ?_
      obtain ⟨⟨r_9, M_10⟩, hq_11, h⟩ := ob h
      try dsimp only at h
      refine r_thenI hS (r_runV C hS hl.1 cv_X11_277 rfl (c_X11_draftRun l G F 93 M_6 rfl _ hq_11) ⟨by decide, by decide⟩ rfl rfl (Nat.le_of_ble_eq_true rfl) ⟨Nat.zero_le _, Nat.zero_le _⟩ dX11_nearest_35) (fun H locs hS => ?_)
      refine lv_istore (lv' := [(5, .int r_9), (4, .int (-1)), (3, .int (-1)), (0, .ref (G.1 + 63)), (1, .int x1), (2, .int x2)]) hx hb dX11_nearest_38 hl (by decide) rfl (fun ls hl => ?_)
      refine lv_iconst (v := 0) hx hb dX11_nearest_40 (by decide) ?_
      refine lv_istore (lv' := [(6, .int 0), (5, .int r_9), (4, .int (-1)), (3, .int (-1)), (0, .ref (G.1 + 63)), (1, .int x1), (2, .int x2)]) hx hb dX11_nearest_41 hl (by decide) rfl (fun ls hl => ?_)
      obtain ⟨⟨k_35, x3_31, x4_32, x6_33, M_34⟩, hq_36, h⟩ := ob h
      try dsimp only at h
      refine loopW (E := (E_Mod_nearest_43 G p l e s m _ below meth c _ x1 x2 r_9)) (w_Mod_nearest_B43 C x1 x2 r_9 F) F _ _ hq_36 ?_ _ _ _ hS (lv_sub hl [4, 5, 6, 3, 2, 1, 0] rfl)
      by_cases ek_38 : k_35 = 1
      · replace h := ifp ek_38 h
        subst ek_38
        intro H locs ls hS hl
        refine lv_iload_n hx hb dX11_nearest_110 rfl (lv_at hl 0 rfl) ?_
        refine lv_if_ne (tgt := 118) hx hb dX11_nearest_111 (by decide) (fun c_37 => ?_) (fun c_37 => ?_)
        · replace h := ifn c_37 h
          refine lv_iload hx hb dX11_nearest_118 (lv_at hl 2 rfl) ?_
          exact r_iret C hS hr hlk h dX11_nearest_120
        · replace h := ifp c_37 h
          refine lv_iload_n hx hb dX11_nearest_114 rfl (lv_at hl 1 rfl) ?_
          refine lv_goto (tgt := 120) hx hb dX11_nearest_115 (by decide) ?_
          exact r_iret C hS hr hlk h dX11_nearest_120
      · replace h := ifn ek_38 h
        cases h
    · replace h := ifp c_8 h
      refine lv_sipush (v := (-1002)) hx hb dX11_nearest_21 (by decide) ?_
      exact r_iret C hS hr hlk h dX11_nearest_24
  · replace h := ifp c_4 h
    refine lv_sipush (v := (-1001)) hx hb dX11_nearest_7 (by decide) ?_
    exact r_iret C hS hr hlk h dX11_nearest_10
set_option maxHeartbeats 4000000 in
set_option maxRecDepth 100000 in
theorem c_X11_led (l : Launch) (G : Gl) (F : Nat) (x1 : Int32) (x2 : Int32) (x3 : Int32) (M : zM)  (q : Int32 × zM) (h : Mod_led F x1 x2 x3 M = some q) : Met l yX11_led (wsM yX11_led cX11_led 6 (some .int)) (rmM 4 102) (Pre G M [.ref (G.1 + 63), .int x1, .int x2, .int x3]) (PoI G q) 0 0 (gA G) := by
  refine r_met (own := RX11) rfl (by decide) (Nat.le_of_ble_eq_true rfl) ?_
  intro p e s m below meth c ls C hr hlk hS hl
  have hl : lv_has ls 6 [(0, .ref (G.1 + 63)), (1, .int x1), (2, .int x2), (3, .int x3)] := hl
  obtain ⟨hx, hb, -⟩ := id C
  unfold Mod_led at h
  refine lv_iload_n hx hb dX11_led_0 rfl (lv_at hl 1 rfl) ?_
  obtain ⟨⟨r_1, M_2⟩, hq_3, h⟩ := ob h
  try dsimp only at h
  refine r_thenI hS (r_runS C hS hl.1 cs_X11_194 (c_X11_isTongue l G F x1 M  _ hq_3) ⟨by decide, by decide⟩ rfl rfl (Nat.le_of_ble_eq_true rfl) ⟨Nat.zero_le _, Nat.zero_le _⟩ dX11_led_1) (fun H locs hS => ?_)
  refine lv_if_eq (tgt := 14) hx hb dX11_led_4 (by decide) (fun c_4 => ?_) (fun c_4 => ?_)
  · replace h := ifp c_4 h
    refine lv_sipush (v := (-1001)) hx hb dX11_led_14 (by decide) ?_
    exact r_iret C hS hr hlk h dX11_led_17
  · replace h := ifn c_4 h
    refine lv_iload_n hx hb dX11_led_7 rfl (lv_at hl 2 rfl) ?_
    obtain ⟨⟨r_5, M_6⟩, hq_7, h⟩ := ob h
    try dsimp only at h
    refine r_thenI hS (r_runS C hS hl.1 cs_X11_194 (c_X11_isTongue l G F x2 M_2  _ hq_7) ⟨by decide, by decide⟩ rfl rfl (Nat.le_of_ble_eq_true rfl) ⟨Nat.zero_le _, Nat.zero_le _⟩ dX11_led_8) (fun H locs hS => ?_)
    refine lv_if_ne (tgt := 18) hx hb dX11_led_11 (by decide) (fun c_8 => ?_) (fun c_8 => ?_)
    · replace h := ifn c_8 h
      refine lv_aload_n hx hb dX11_led_18 rfl (lv_at hl 0 rfl) ?_
      refine lv_iload_n hx hb dX11_led_19 rfl (lv_at hl 1 rfl) ?_
      refine lv_iconst (v := 0) hx hb dX11_led_20 (by decide) ?_
      refine lv_iconst (v := 0) hx hb dX11_led_21 (by decide) ?_
      obtain ⟨⟨r_9, M_10⟩, hq_11, h⟩ := ob h
      try dsimp only at h
      refine r_thenI hS (r_runV C hS hl.1 cv_X11_285 rfl (c_X11_found l G F x1 0 0 M_6  _ hq_11) ⟨by decide, by decide⟩ rfl rfl (Nat.le_of_ble_eq_true rfl) ⟨Nat.zero_le _, Nat.zero_le _⟩ dX11_led_22) (fun H locs hS => ?_)
      refine lv_istore (lv' := [(4, .int r_9), (0, .ref (G.1 + 63)), (1, .int x1), (2, .int x2), (3, .int x3)]) hx hb dX11_led_25 hl (by decide) rfl (fun ls hl => ?_)
      refine lv_iload hx hb dX11_led_27 (lv_at hl 0 rfl) ?_
      refine lv_if_lt (tgt := 48) hx hb dX11_led_29 (by decide) (fun c_12 => ?_) (fun c_12 => ?_)
      · replace h := ifp c_12 h
        refine lv_sipush (v := (-1003)) hx hb dX11_led_48 (by decide) ?_
        exact r_iret C hS hr hlk h dX11_led_51
      · replace h := ifn c_12 h
        refine lv_aload_n hx hb dX11_led_32 rfl (lv_at hl 1 rfl) ?_
        refine r_gR C hS fl_X11_41 rfl rfl rfl dX11_led_33 ?_
        refine lv_sipush (v := 1000) hx hb dX11_led_36 (by decide) ?_
        refine lv_iload_n hx hb dX11_led_39 rfl (lv_at hl 3 rfl) ?_
        refine lv_imul hx hb dX11_led_40 ?_
        refine lv_iload hx hb dX11_led_41 (lv_at hl 0 rfl) ?_
        refine lv_iadd hx hb dX11_led_43 ?_
        obtain ⟨b_13, h⟩ := ift h
        refine r_iald C hS rfl rfl b_13 dX11_led_44 ?_
        refine lv_if_ge (tgt := 52) hx hb dX11_led_45 (by decide) (fun c_14 => ?_) (fun c_14 => ?_)
        · replace h := ifp c_14 h
          refine lv_sipush (v := 1000) hx hb dX11_led_52 (by decide) ?_
          refine lv_iload_n hx hb dX11_led_55 rfl (lv_at hl 3 rfl) ?_
          refine lv_imul hx hb dX11_led_56 ?_
          refine lv_iload hx hb dX11_led_57 (lv_at hl 0 rfl) ?_
          refine lv_iadd hx hb dX11_led_59 ?_
          obtain ⟨x5_15, e_16, h⟩ := olt h
          refine r_nI e_16 ?_
          refine lv_istore (lv' := [(5, .int x5_15), (4, .int r_9), (0, .ref (G.1 + 63)), (1, .int x1), (2, .int x2), (3, .int x3)]) hx hb dX11_led_60 hl (by decide) rfl (fun ls hl => ?_)
          refine lv_iload_n hx hb dX11_led_62 rfl (lv_at hl 5 rfl) ?_
          refine lv_iconst (v := (-1)) hx hb dX11_led_63 (by decide) ?_
          refine lv_icmp_ne (tgt := 77) hx hb dX11_led_64 (by decide) (fun c_17 => ?_) (fun c_17 => ?_)
          · replace h := ifn c_17 h
            refine lv_iload_n hx hb dX11_led_77 rfl (lv_at hl 5 rfl) ?_
            refine lv_i2l (v := x3.toInt64) hx hb dX11_led_78 rfl ?_
            refine lv_lconst (v := 0) hx hb dX11_led_79 (by decide) ?_
            refine lv_aload_n hx hb dX11_led_80 rfl (lv_at hl 2 rfl) ?_
            refine r_gR C hS fl_X11_41 rfl rfl rfl dX11_led_81 ?_
            refine lv_iload hx hb dX11_led_84 (lv_at hl 0 rfl) ?_
            obtain ⟨b_18, h⟩ := ift h
            refine r_iald C hS rfl rfl b_18 dX11_led_86 ?_
            refine lv_iconst (v := 1) hx hb dX11_led_87 (by decide) ?_
            refine lv_isub hx hb dX11_led_88 ?_
            refine lv_i2l (v := ((M_10.1 74 x5_15.toNatClampNeg) - 1).toInt64) hx hb dX11_led_89 rfl ?_
            obtain ⟨⟨r_19, M_20⟩, hq_21, h⟩ := ob h
            try dsimp only at h
            refine r_thenI hS (r_runS C hS hl.1 cs_X11_123 (c_X11_in l G F x3.toInt64 0 (((M_10.1 74 x5_15.toNatClampNeg) - 1).toInt64) M_10  _ hq_21) ⟨by decide, by decide⟩ rfl rfl (Nat.le_of_ble_eq_true rfl) ⟨Nat.zero_le _, Nat.zero_le _⟩ dX11_led_90) (fun H locs hS => ?_)
            refine lv_if_eq (tgt := 106) hx hb dX11_led_93 (by decide) (fun c_22 => ?_) (fun c_22 => ?_)
            · replace h := ifp c_22 h
              refine lv_iconst (v := (-1)) hx hb dX11_led_106 (by decide) ?_
              exact r_iret C hS hr hlk h dX11_led_107
            · replace h := ifn c_22 h
              refine lv_aload_n hx hb dX11_led_96 rfl (lv_at hl 2 rfl) ?_
              refine lv_iload hx hb dX11_led_97 (lv_at hl 0 rfl) ?_
              refine lv_iload_n hx hb dX11_led_99 rfl (lv_at hl 5 rfl) ?_
              obtain ⟨⟨r_23, M_24⟩, hq_25, h⟩ := ob h
              try dsimp only at h
              refine r_thenI hS (r_runV C hS hl.1 cv_X11_222 rfl (c_X11_byteOf l G F x5_15 x3 M_20  _ hq_25) ⟨by decide, by decide⟩ rfl rfl (Nat.le_of_ble_eq_true rfl) ⟨Nat.zero_le _, Nat.zero_le _⟩ dX11_led_100) (fun H locs hS => ?_)
              refine lv_goto (tgt := 107) hx hb dX11_led_103 (by decide) ?_
              exact r_iret C hS hr hlk h dX11_led_107
          · replace h := ifp c_17 h
            refine lv_aload_n hx hb dX11_led_67 rfl (lv_at hl 2 rfl) ?_
            refine r_gR C hS fl_X11_41 rfl rfl rfl dX11_led_68 ?_
            refine lv_iload hx hb dX11_led_71 (lv_at hl 0 rfl) ?_
            obtain ⟨b_26, h⟩ := ift h
            refine r_iald C hS rfl rfl b_26 dX11_led_73 ?_
            refine lv_goto (tgt := 107) hx hb dX11_led_74 (by decide) ?_
            exact r_iret C hS hr hlk h dX11_led_107
        · replace h := ifn c_14 h
          refine lv_sipush (v := (-1003)) hx hb dX11_led_48 (by decide) ?_
          exact r_iret C hS hr hlk h dX11_led_51
    · replace h := ifp c_8 h
      refine lv_sipush (v := (-1001)) hx hb dX11_led_14 (by decide) ?_
      exact r_iret C hS hr hlk h dX11_led_17
def E_Mod_chain_37 (G : Gl) (p : Program) (l : Launch) (e : Env) (s : State) (m : MethodId) (args : Array Value) (below : List Frame) (meth : Method) (c : Code) (Q : State → Prop) (x1 : Int32) (x2 : Int32) (x3 : Int32) : Nat → (Int32 × zM) → Prop := fun k (x4, M) => match k with
  | 0 => ∀ (H : Heap) (locs : List Loc) (ls : Array Slot), St G M s H locs → lv_has ls 7 [(0, .ref (G.1 + 63)), (1, .int x1), (2, .int x2), (3, .int x3), (4, .int x4)] → W p l e (rmM 2 45) s m args below meth c H locs 0 0 Q (F0 m 37 ls [])
  | 1 => ∀ (H : Heap) (locs : List Loc) (ls : Array Slot), St G M s H locs → lv_has ls 7 [(0, .ref (G.1 + 63)), (1, .int x1), (2, .int x2), (3, .int x3)] → W p l e (rmM 2 45) s m args below meth c H locs 0 0 Q (F0 m 59 ls [])
  | _ => True
set_option maxHeartbeats 4000000 in
set_option maxRecDepth 100000 in
theorem w_Mod_chain_B37 {G : Gl} {p : Program} {l : Launch} {e : Env} {s : State} {m : MethodId} {args : Array Value} {below : List Frame} {meth : Method} {c : Code} {Q : State → Prop} (C : Cx G cX11_chain 7 RX11 p s m args c) (x1 : Int32) (x2 : Int32) (x3 : Int32) (F : Nat) : ∀ (σ : (Int32 × zM)) (q : Nat × (Int32 × zM)), Mod_chain_B37 F x1 x2 x3 σ = some q → (E_Mod_chain_37 G p l e s m args below meth c Q x1 x2 x3) q.1 q.2 → (E_Mod_chain_37 G p l e s m args below meth c Q x1 x2 x3) 0 σ := by
  intro (x4, M) q h hE H locs ls hS hl
  obtain ⟨hx, hb, -⟩ := id C
  unfold Mod_chain_B37 at h
  try dsimp only at h
  refine lv_iload hx hb dX11_chain_37 (lv_at hl 4 rfl) ?_
  refine lv_sipush (v := 1000) hx hb dX11_chain_39 (by decide) ?_
  refine lv_icmp_ge (tgt := 59) hx hb dX11_chain_42 (by decide) (fun c_13 => ?_) (fun c_13 => ?_)
  · replace h := ifp c_13 h
    obtain rfl := Option.some.inj h
    exact hE _ _ _ hS (lv_sub hl [0, 1, 2, 3] rfl)
  · replace h := ifn c_13 h
    refine lv_aload_n hx hb dX11_chain_45 rfl (lv_at hl 0 rfl) ?_
    refine r_gR C hS fl_X11_115 rfl rfl rfl dX11_chain_46 ?_
    refine lv_iload hx hb dX11_chain_49 (lv_at hl 4 rfl) ?_
    refine lv_iconst (v := 0) hx hb dX11_chain_51 (by decide) ?_
    obtain ⟨b_14, h⟩ := ift h
    obtain ⟨M_15, e_16, h⟩ := olt h
    refine r_zast C hS rfl rfl b_14 e_16 dX11_chain_52 (fun H locs hS => ?_)
    obtain ⟨x4_17, e_18, h⟩ := olt h
    refine lv_iinc (v := x4_17) (lv' := [(4, .int x4_17), (0, .ref (G.1 + 63)), (1, .int x1), (2, .int x2), (3, .int x3)]) hx hb dX11_chain_53 hl (k := 4) rfl (by rw [e_18]; rfl) (by decide) rfl (fun ls hl => ?_)
    refine lv_goto (tgt := 37) hx hb dX11_chain_56 (by decide) ?_
    obtain rfl := Option.some.inj h
    exact hE _ _ _ hS (lv_sub hl [1, 2, 3, 4, 0] rfl)
def E_Mod_chain_81 (G : Gl) (p : Program) (l : Launch) (e : Env) (s : State) (m : MethodId) (args : Array Value) (below : List Frame) (meth : Method) (c : Code) (Q : State → Prop) (x1 : Int32) (x3 : Int32) : Nat → (Int32 × Int32 × Int32 × zM) → Prop := fun k (x4, x5, x6, M) => match k with
  | 0 => ∀ (H : Heap) (locs : List Loc) (ls : Array Slot), St G M s H locs → lv_has ls 7 [(0, .ref (G.1 + 63)), (1, .int x1), (3, .int x3), (4, .int x4), (5, .int x5), (6, .int x6)] → W p l e (rmM 2 45) s m args below meth c H locs 0 0 Q (F0 m 81 ls [])
  | 1 => ∀ (H : Heap) (locs : List Loc) (ls : Array Slot), St G M s H locs → lv_has ls 7 [(3, .int x3), (4, .int x4), (5, .int x5), (6, .int x6)] → W p l e (rmM 2 45) s m args below meth c H locs 0 0 Q (F0 m 123 ls [])
  | _ => True
set_option maxHeartbeats 4000000 in
set_option maxRecDepth 100000 in
theorem w_Mod_chain_B81 {G : Gl} {p : Program} {l : Launch} {e : Env} {s : State} {m : MethodId} {args : Array Value} {below : List Frame} {meth : Method} {c : Code} {Q : State → Prop} (C : Cx G cX11_chain 7 RX11 p s m args c) (x1 : Int32) (x3 : Int32) (F : Nat) : ∀ (σ : (Int32 × Int32 × Int32 × zM)) (q : Nat × (Int32 × Int32 × Int32 × zM)), Mod_chain_B81 F x1 x3 σ = some q → (E_Mod_chain_81 G p l e s m args below meth c Q x1 x3) q.1 q.2 → (E_Mod_chain_81 G p l e s m args below meth c Q x1 x3) 0 σ := by
  intro (x4, x5, x6, M) q h hE H locs ls hS hl
  obtain ⟨hx, hb, -⟩ := id C
  unfold Mod_chain_B81 at h
  try dsimp only at h
  refine lv_iload hx hb dX11_chain_81 (lv_at hl 5 rfl) ?_
  refine lv_if_lt (tgt := 123) hx hb dX11_chain_83 (by decide) (fun c_29 => ?_) (fun c_29 => ?_)
  · replace h := ifp c_29 h
    obtain rfl := Option.some.inj h
    exact hE _ _ _ hS (lv_sub hl [2, 3, 4, 5] rfl)
  · replace h := ifn c_29 h
    refine lv_aload_n hx hb dX11_chain_86 rfl (lv_at hl 0 rfl) ?_
    refine r_gR C hS fl_X11_115 rfl rfl rfl dX11_chain_87 ?_
    refine lv_iload hx hb dX11_chain_90 (lv_at hl 5 rfl) ?_
    obtain ⟨b_30, h⟩ := ift h
    refine r_zald C hS rfl rfl b_30 dX11_chain_92 ?_
    refine lv_if_ne (tgt := 123) hx hb dX11_chain_93 (by decide) (fun c_31 => ?_) (fun c_31 => ?_)
    · replace h := ifn c_31 h
      obtain rfl := Option.some.inj h
      exact hE _ _ _ hS (lv_sub hl [2, 3, 4, 5] rfl)
    · replace h := ifp c_31 h
      refine lv_iload hx hb dX11_chain_96 (lv_at hl 5 rfl) ?_
      refine lv_istore (lv' := [(5, .int x6), (0, .ref (G.1 + 63)), (1, .int x1), (3, .int x3), (4, .int x4), (6, .int x6)]) hx hb dX11_chain_98 hl (by decide) rfl (fun ls hl => ?_)
      refine lv_aload_n hx hb dX11_chain_100 rfl (lv_at hl 1 rfl) ?_
      refine r_gR C hS fl_X11_115 rfl rfl rfl dX11_chain_101 ?_
      refine lv_iload hx hb dX11_chain_104 (lv_at hl 0 rfl) ?_
      refine lv_iconst (v := 1) hx hb dX11_chain_106 (by decide) ?_
      obtain ⟨M_32, e_33, h⟩ := olt h
      refine r_zast C hS rfl rfl b_30 e_33 dX11_chain_107 (fun H locs hS => ?_)
      obtain ⟨x4_34, e_35, h⟩ := olt h
      refine lv_iinc (v := x4_34) (lv' := [(4, .int x4_34), (5, .int x6), (0, .ref (G.1 + 63)), (1, .int x1), (3, .int x3), (6, .int x6)]) hx hb dX11_chain_108 hl (k := 4) rfl (by rw [e_35]; rfl) (by decide) rfl (fun ls hl => ?_)
      refine lv_aload_n hx hb dX11_chain_111 rfl (lv_at hl 2 rfl) ?_
      refine lv_iload_n hx hb dX11_chain_112 rfl (lv_at hl 3 rfl) ?_
      refine lv_iload hx hb dX11_chain_113 (lv_at hl 1 rfl) ?_
      obtain ⟨⟨r_36, M_37⟩, hq_38, h⟩ := ob h
      try dsimp only at h
      refine r_thenI hS (r_runV C hS hl.1 cv_X11_242 rfl (c_X11_lettersOf l G F x1 x6 M_32  _ hq_38) ⟨by decide, by decide⟩ rfl rfl (Nat.le_of_ble_eq_true rfl) ⟨Nat.zero_le _, Nat.zero_le _⟩ dX11_chain_115) (fun H locs hS => ?_)
      refine lv_istore (lv' := [(6, .int r_36), (4, .int x4_34), (5, .int x6), (0, .ref (G.1 + 63)), (1, .int x1), (3, .int x3)]) hx hb dX11_chain_118 hl (by decide) rfl (fun ls hl => ?_)
      refine lv_goto (tgt := 81) hx hb dX11_chain_120 (by decide) ?_
      obtain rfl := Option.some.inj h
      exact hE _ _ _ hS (lv_sub hl [3, 4, 5, 1, 2, 0] rfl)
set_option maxHeartbeats 4000000 in
set_option maxRecDepth 100000 in
theorem w_Mod_chain_J123 {G : Gl} {p : Program} {l : Launch} {e : Env} {s : State} {m : MethodId} {args : Array Value} {below : List Frame} {meth : Method} {c : Code} (C : Cx G cX11_chain 7 RX11 p s m args c) (hr : meth.sig.returnType = (some .int)) (hlk : meth.locks = false) (F : Nat) (x3 : Int32) (x4 : Int32) (x5 : Int32) (x6 : Int32) (M : zM)  (q : Int32 × zM) (h : Mod_chain_J123 F x3 x4 x5 x6 M = some q) (H : Heap) (locs : List Loc) (ls : Array Slot) (hS : St G M s H locs) (hl : lv_has ls 7 [(3, .int x3), (4, .int x4), (5, .int x5), (6, .int x6)]) : W p l e (rmM 2 45) s m args below meth c H locs 0 0 (MQ below (PoI G q) args s 0 0 (gA G)) (F0 m 123 ls []) := by
  obtain ⟨hx, hb, -⟩ := id C
  unfold Mod_chain_J123 at h
  refine lv_iload_n hx hb dX11_chain_123 rfl (lv_at hl 0 rfl) ?_
  refine lv_if_ne (tgt := 132) hx hb dX11_chain_124 (by decide) (fun c_45 => ?_) (fun c_45 => ?_)
  · replace h := ifn c_45 h
    refine lv_iload_n hx hb dX11_chain_132 rfl (lv_at hl 0 rfl) ?_
    refine lv_iconst (v := 1) hx hb dX11_chain_133 (by decide) ?_
    refine lv_icmp_ne (tgt := 142) hx hb dX11_chain_134 (by decide) (fun c_46 => ?_) (fun c_46 => ?_)
    · replace h := ifn c_46 h
      refine lv_iload hx hb dX11_chain_142 (lv_at hl 3 rfl) ?_
      exact r_iret C hS hr hlk h dX11_chain_144
    · replace h := ifp c_46 h
      refine lv_iload hx hb dX11_chain_137 (lv_at hl 2 rfl) ?_
      refine lv_goto (tgt := 144) hx hb dX11_chain_139 (by decide) ?_
      exact r_iret C hS hr hlk h dX11_chain_144
  · replace h := ifp c_45 h
    refine lv_iload hx hb dX11_chain_127 (lv_at hl 1 rfl) ?_
    refine lv_goto (tgt := 144) hx hb dX11_chain_129 (by decide) ?_
    exact r_iret C hS hr hlk h dX11_chain_144
set_option maxHeartbeats 4000000 in
set_option maxRecDepth 100000 in
theorem c_X11_chain (l : Launch) (G : Gl) (F : Nat) (x1 : Int32) (x2 : Int32) (x3 : Int32) (M : zM)  (q : Int32 × zM) (h : Mod_chain F x1 x2 x3 M = some q) : Met l yX11_chain (wsM yX11_chain cX11_chain 7 (some .int)) (rmM 2 45) (Pre G M [.ref (G.1 + 63), .int x1, .int x2, .int x3]) (PoI G q) 0 0 (gA G) := by
  refine r_met (own := RX11) rfl (by decide) (Nat.le_of_ble_eq_true rfl) ?_
  intro p e s m below meth c ls C hr hlk hS hl
  have hl : lv_has ls 7 [(0, .ref (G.1 + 63)), (1, .int x1), (2, .int x2), (3, .int x3)] := hl
  obtain ⟨hx, hb, -⟩ := id C
  unfold Mod_chain at h
  refine lv_iload_n hx hb dX11_chain_0 rfl (lv_at hl 1 rfl) ?_
  obtain ⟨⟨r_1, M_2⟩, hq_3, h⟩ := ob h
  try dsimp only at h
  refine r_thenI hS (r_runS C hS hl.1 cs_X11_194 (c_X11_isTongue l G F x1 M  _ hq_3) ⟨by decide, by decide⟩ rfl rfl (Nat.le_of_ble_eq_true rfl) ⟨Nat.zero_le _, Nat.zero_le _⟩ dX11_chain_1) (fun H locs hS => ?_)
  refine lv_if_eq (tgt := 14) hx hb dX11_chain_4 (by decide) (fun c_4 => ?_) (fun c_4 => ?_)
  · replace h := ifp c_4 h
    refine lv_sipush (v := (-1001)) hx hb dX11_chain_14 (by decide) ?_
    exact r_iret C hS hr hlk h dX11_chain_17
  · replace h := ifn c_4 h
    refine lv_iload_n hx hb dX11_chain_7 rfl (lv_at hl 2 rfl) ?_
    obtain ⟨⟨r_5, M_6⟩, hq_7, h⟩ := ob h
    try dsimp only at h
    refine r_thenI hS (r_runS C hS hl.1 cs_X11_216 (c_X11_isNumber l G F x2 M_2  _ hq_7) ⟨by decide, by decide⟩ rfl rfl (Nat.le_of_ble_eq_true rfl) ⟨Nat.zero_le _, Nat.zero_le _⟩ dX11_chain_8) (fun H locs hS => ?_)
    refine lv_if_ne (tgt := 18) hx hb dX11_chain_11 (by decide) (fun c_8 => ?_) (fun c_8 => ?_)
    · replace h := ifn c_8 h
      refine lv_iload_n hx hb dX11_chain_18 rfl (lv_at hl 3 rfl) ?_
      refine lv_i2l (v := x3.toInt64) hx hb dX11_chain_19 rfl ?_
      refine lv_lconst (v := 0) hx hb dX11_chain_20 (by decide) ?_
      refine lv_ldc2 hx hb C.2.2.2.1 (C.2.2.2.2.1 _ tw_1049) dX11_chain_21 ?_
      obtain ⟨⟨r_9, M_10⟩, hq_11, h⟩ := ob h
      try dsimp only at h
      refine r_thenI hS (r_runS C hS hl.1 cs_X11_123 (c_X11_in l G F x3.toInt64 0 2 M_6  _ hq_11) ⟨by decide, by decide⟩ rfl rfl (Nat.le_of_ble_eq_true rfl) ⟨Nat.zero_le _, Nat.zero_le _⟩ dX11_chain_24) (fun H locs hS => ?_)
      refine lv_if_ne (tgt := 34) hx hb dX11_chain_27 (by decide) (fun c_12 => ?_) (fun c_12 => ?_)
      · replace h := ifn c_12 h
        refine lv_iconst (v := 0) hx hb dX11_chain_34 (by decide) ?_
        refine lv_istore (lv' := [(4, .int 0), (0, .ref (G.1 + 63)), (1, .int x1), (2, .int x2), (3, .int x3)]) hx hb dX11_chain_35 hl (by decide) rfl (fun ls hl => ?_)
        obtain ⟨⟨k_21, x4_19, M_20⟩, hq_22, h⟩ := ob h
        try dsimp only at h
        refine loopW (E := (E_Mod_chain_37 G p l e s m _ below meth c _ x1 x2 x3)) (w_Mod_chain_B37 C x1 x2 x3 F) F _ _ hq_22 ?_ _ _ _ hS (lv_sub hl [1, 2, 3, 4, 0] rfl)
        by_cases ek_48 : k_21 = 1
        · replace h := ifp ek_48 h
          subst ek_48
          intro H locs ls hS hl
          refine lv_iconst (v := 1) hx hb dX11_chain_59 (by decide) ?_
          refine lv_istore (lv' := [(4, .int 1), (0, .ref (G.1 + 63)), (1, .int x1), (2, .int x2), (3, .int x3)]) hx hb dX11_chain_60 hl (by decide) rfl (fun ls hl => ?_)
          refine lv_iload_n hx hb dX11_chain_62 rfl (lv_at hl 3 rfl) ?_
          refine lv_istore (lv' := [(5, .int x2), (4, .int 1), (0, .ref (G.1 + 63)), (1, .int x1), (2, .int x2), (3, .int x3)]) hx hb dX11_chain_63 hl (by decide) rfl (fun ls hl => ?_)
          refine lv_aload_n hx hb dX11_chain_65 rfl (lv_at hl 2 rfl) ?_
          refine r_gR C hS fl_X11_115 rfl rfl rfl dX11_chain_66 ?_
          refine lv_iload_n hx hb dX11_chain_69 rfl (lv_at hl 4 rfl) ?_
          refine lv_iconst (v := 1) hx hb dX11_chain_70 (by decide) ?_
          obtain ⟨b_23, h⟩ := ift h
          obtain ⟨M_24, e_25, h⟩ := olt h
          refine r_zast C hS rfl rfl b_23 e_25 dX11_chain_71 (fun H locs hS => ?_)
          refine lv_aload_n hx hb dX11_chain_72 rfl (lv_at hl 2 rfl) ?_
          refine lv_iload_n hx hb dX11_chain_73 rfl (lv_at hl 3 rfl) ?_
          refine lv_iload hx hb dX11_chain_74 (lv_at hl 0 rfl) ?_
          obtain ⟨⟨r_26, M_27⟩, hq_28, h⟩ := ob h
          try dsimp only at h
          refine r_thenI hS (r_runV C hS hl.1 cv_X11_242 rfl (c_X11_lettersOf l G F x1 x2 M_24  _ hq_28) ⟨by decide, by decide⟩ rfl rfl (Nat.le_of_ble_eq_true rfl) ⟨Nat.zero_le _, Nat.zero_le _⟩ dX11_chain_76) (fun H locs hS => ?_)
          refine lv_istore (lv' := [(6, .int r_26), (5, .int x2), (4, .int 1), (0, .ref (G.1 + 63)), (1, .int x1), (2, .int x2), (3, .int x3)]) hx hb dX11_chain_79 hl (by decide) rfl (fun ls hl => ?_)
          obtain ⟨⟨k_43, x4_39, x5_40, x6_41, M_42⟩, hq_44, h⟩ := ob h
          try dsimp only at h
          refine loopW (E := (E_Mod_chain_81 G p l e s m _ below meth c _ x1 x3)) (w_Mod_chain_B81 C x1 x3 F) F _ _ hq_44 ?_ _ _ _ hS (lv_sub hl [3, 4, 6, 2, 1, 0] rfl)
          by_cases ek_47 : k_43 = 1
          · replace h := ifp ek_47 h
            subst ek_47
            intro H locs ls hS hl
            exact w_Mod_chain_J123 C hr hlk F x3 x4_39 x5_40 x6_41 M_42  q h _ _ _ hS (lv_sub hl [0, 1, 2, 3] rfl)
          · replace h := ifn ek_47 h
            cases h
        · replace h := ifn ek_48 h
          cases h
      · replace h := ifp c_12 h
        refine lv_sipush (v := (-1002)) hx hb dX11_chain_30 (by decide) ?_
        exact r_iret C hS hr hlk h dX11_chain_33
    · replace h := ifp c_8 h
      refine lv_sipush (v := (-1001)) hx hb dX11_chain_14 (by decide) ?_
      exact r_iret C hS hr hlk h dX11_chain_17
def E_Mod_honest_16 (G : Gl) (p : Program) (l : Launch) (e : Env) (s : State) (m : MethodId) (args : Array Value) (below : List Frame) (meth : Method) (c : Code) (Q : State → Prop) (x1 : Int32) (x2 : Int32) : Nat → (Int32 × Int32 × zM) → Prop := fun k (x3, x4, M) => match k with
  | 0 => ∀ (H : Heap) (locs : List Loc) (ls : Array Slot), St G M s H locs → lv_has ls 5 [(0, .ref (G.1 + 63)), (1, .int x1), (2, .int x2), (3, .int x3), (4, .int x4)] → W p l e (rmM 2 45) s m args below meth c H locs 0 0 Q (F0 m 16 ls [])
  | 1 => ∀ (H : Heap) (locs : List Loc) (ls : Array Slot), St G M s H locs → lv_has ls 5 [(4, .int x4)] → W p l e (rmM 2 45) s m args below meth c H locs 0 0 Q (F0 m 41 ls [])
  | 2 => ∀ (H : Heap) (locs : List Loc) (ls : Array Slot), St G M s H locs → lv_has ls 5 [] → W p l e (rmM 2 45) s m args below meth c H locs 0 0 Q (F0 m 53 ls [])
  | _ => True
set_option maxHeartbeats 4000000 in
set_option maxRecDepth 100000 in
theorem w_Mod_honest_B16 {G : Gl} {p : Program} {l : Launch} {e : Env} {s : State} {m : MethodId} {args : Array Value} {below : List Frame} {meth : Method} {c : Code} {Q : State → Prop} (C : Cx G cX11_honest 5 RX11 p s m args c) (x1 : Int32) (x2 : Int32) (F : Nat) : ∀ (σ : (Int32 × Int32 × zM)) (q : Nat × (Int32 × Int32 × zM)), Mod_honest_B16 F x1 x2 σ = some q → (E_Mod_honest_16 G p l e s m args below meth c Q x1 x2) q.1 q.2 → (E_Mod_honest_16 G p l e s m args below meth c Q x1 x2) 0 σ := by
  intro (x3, x4, M) q h hE H locs ls hS hl
  obtain ⟨hx, hb, -⟩ := id C
  unfold Mod_honest_B16 at h
  try dsimp only at h
  refine lv_iload hx hb dX11_honest_16 (lv_at hl 4 rfl) ?_
  refine lv_sipush (v := 1000) hx hb dX11_honest_18 (by decide) ?_
  refine lv_icmp_ge (tgt := 53) hx hb dX11_honest_21 (by decide) (fun c_5 => ?_) (fun c_5 => ?_)
  · replace h := ifp c_5 h
    obtain rfl := Option.some.inj h
    exact hE _ _ _ hS (lv_sub hl [] rfl)
  · replace h := ifn c_5 h
    refine lv_aload_n hx hb dX11_honest_24 rfl (lv_at hl 0 rfl) ?_
    refine lv_iload_n hx hb dX11_honest_25 rfl (lv_at hl 1 rfl) ?_
    refine lv_iload hx hb dX11_honest_26 (lv_at hl 4 rfl) ?_
    obtain ⟨⟨r_6, M_7⟩, hq_8, h⟩ := ob h
    try dsimp only at h
    refine r_thenI hS (r_runV C hS hl.1 cv_X11_242 rfl (c_X11_lettersOf l G F x1 x4 M  _ hq_8) ⟨by decide, by decide⟩ rfl rfl (Nat.le_of_ble_eq_true rfl) ⟨Nat.zero_le _, Nat.zero_le _⟩ dX11_honest_28) (fun H locs hS => ?_)
    refine lv_iload hx hb dX11_honest_31 (lv_at hl 4 rfl) ?_
    refine lv_icmp_ne (tgt := 47) hx hb dX11_honest_33 (by decide) (fun c_9 => ?_) (fun c_9 => ?_)
    · replace h := ifn c_9 h
      obtain ⟨x4_10, e_11, h⟩ := olt h
      refine lv_iinc (v := x4_10) (lv' := [(4, .int x4_10), (0, .ref (G.1 + 63)), (1, .int x1), (2, .int x2), (3, .int x3)]) hx hb dX11_honest_47 hl (k := 4) rfl (by rw [e_11]; rfl) (by decide) rfl (fun ls hl => ?_)
      refine lv_goto (tgt := 16) hx hb dX11_honest_50 (by decide) ?_
      obtain rfl := Option.some.inj h
      exact hE _ _ _ hS (lv_sub hl [1, 2, 3, 4, 0] rfl)
    · replace h := ifp c_9 h
      refine lv_iload_n hx hb dX11_honest_36 rfl (lv_at hl 3 rfl) ?_
      refine lv_iload_n hx hb dX11_honest_37 rfl (lv_at hl 2 rfl) ?_
      refine lv_icmp_ne (tgt := 44) hx hb dX11_honest_38 (by decide) (fun c_12 => ?_) (fun c_12 => ?_)
      · replace h := ifn c_12 h
        obtain ⟨x3_13, e_14, h⟩ := olt h
        refine lv_iinc (v := x3_13) (lv' := [(3, .int x3_13), (0, .ref (G.1 + 63)), (1, .int x1), (2, .int x2), (4, .int x4)]) hx hb dX11_honest_44 hl (k := 3) rfl (by rw [e_14]; rfl) (by decide) rfl (fun ls hl => ?_)
        obtain ⟨x4_15, e_16, h⟩ := olt h
        refine lv_iinc (v := x4_15) (lv' := [(4, .int x4_15), (3, .int x3_13), (0, .ref (G.1 + 63)), (1, .int x1), (2, .int x2)]) hx hb dX11_honest_47 hl (k := 4) rfl (by rw [e_16]; rfl) (by decide) rfl (fun ls hl => ?_)
        refine lv_goto (tgt := 16) hx hb dX11_honest_50 (by decide) ?_
        obtain rfl := Option.some.inj h
        exact hE _ _ _ hS (lv_sub hl [2, 3, 4, 1, 0] rfl)
      · replace h := ifp c_12 h
        obtain rfl := Option.some.inj h
        exact hE _ _ _ hS (lv_sub hl [4] rfl)
set_option maxHeartbeats 4000000 in
set_option maxRecDepth 100000 in
theorem c_X11_honest (l : Launch) (G : Gl) (F : Nat) (x1 : Int32) (x2 : Int32) (M : zM)  (q : Int32 × zM) (h : Mod_honest F x1 x2 M = some q) : Met l yX11_honest (wsM yX11_honest cX11_honest 5 (some .int)) (rmM 2 45) (Pre G M [.ref (G.1 + 63), .int x1, .int x2]) (PoI G q) 0 0 (gA G) := by
  refine r_met (own := RX11) rfl (by decide) (Nat.le_of_ble_eq_true rfl) ?_
  intro p e s m below meth c ls C hr hlk hS hl
  have hl : lv_has ls 5 [(0, .ref (G.1 + 63)), (1, .int x1), (2, .int x2)] := hl
  obtain ⟨hx, hb, -⟩ := id C
  unfold Mod_honest at h
  refine lv_iload_n hx hb dX11_honest_0 rfl (lv_at hl 1 rfl) ?_
  obtain ⟨⟨r_1, M_2⟩, hq_3, h⟩ := ob h
  try dsimp only at h
  refine r_thenI hS (r_runS C hS hl.1 cs_X11_194 (c_X11_isTongue l G F x1 M  _ hq_3) ⟨by decide, by decide⟩ rfl rfl (Nat.le_of_ble_eq_true rfl) ⟨Nat.zero_le _, Nat.zero_le _⟩ dX11_honest_1) (fun H locs hS => ?_)
  refine lv_if_ne (tgt := 11) hx hb dX11_honest_4 (by decide) (fun c_4 => ?_) (fun c_4 => ?_)
  · replace h := ifn c_4 h
    refine lv_iconst (v := 0) hx hb dX11_honest_11 (by decide) ?_
    refine lv_istore_n (lv' := [(3, .int 0), (0, .ref (G.1 + 63)), (1, .int x1), (2, .int x2)]) hx hb dX11_honest_12 rfl hl (by decide) rfl (fun ls hl => ?_)
    refine lv_iconst (v := 0) hx hb dX11_honest_13 (by decide) ?_
    refine lv_istore (lv' := [(4, .int 0), (3, .int 0), (0, .ref (G.1 + 63)), (1, .int x1), (2, .int x2)]) hx hb dX11_honest_14 hl (by decide) rfl (fun ls hl => ?_)
    obtain ⟨⟨k_20, x3_17, x4_18, M_19⟩, hq_21, h⟩ := ob h
    try dsimp only at h
    refine loopW (E := (E_Mod_honest_16 G p l e s m _ below meth c _ x1 x2)) (w_Mod_honest_B16 C x1 x2 F) F _ _ hq_21 ?_ _ _ _ hS (lv_sub hl [2, 3, 4, 1, 0] rfl)
    by_cases ek_23 : k_20 = 1
    · replace h := ifp ek_23 h
      subst ek_23
      intro H locs ls hS hl
      refine lv_iload hx hb dX11_honest_41 (lv_at hl 0 rfl) ?_
      exact r_iret C hS hr hlk h dX11_honest_43
    · replace h := ifn ek_23 h
      by_cases ek_22 : k_20 = 2
      · replace h := ifp ek_22 h
        subst ek_22
        intro H locs ls hS hl
        refine lv_iconst (v := (-1)) hx hb dX11_honest_53 (by decide) ?_
        exact r_iret C hS hr hlk h dX11_honest_54
      · replace h := ifn ek_22 h
        cases h
  · replace h := ifp c_4 h
    refine lv_sipush (v := (-1001)) hx hb dX11_honest_7 (by decide) ?_
    exact r_iret C hS hr hlk h dX11_honest_10
set_option maxHeartbeats 4000000 in
set_option maxRecDepth 100000 in
theorem c_X11_farOf (l : Launch) (G : Gl) (F : Nat) (x1 : Int32) (x2 : Int32) (x3 : Int32) (M : zM)  (q : Int32 × zM) (h : Mod_farOf F x1 x2 x3 M = some q) : Met l yX11_farOf (wsM yX11_farOf cX11_farOf 6 (some .int)) (rmM 2 49) (Pre G M [.ref (G.1 + 63), .int x1, .int x2, .int x3]) (PoI G q) 0 0 (gA G) := by
  refine r_met (own := RX11) rfl (by decide) (Nat.le_of_ble_eq_true rfl) ?_
  intro p e s m below meth c ls C hr hlk hS hl
  have hl : lv_has ls 6 [(0, .ref (G.1 + 63)), (1, .int x1), (2, .int x2), (3, .int x3)] := hl
  obtain ⟨hx, hb, -⟩ := id C
  unfold Mod_farOf at h
  refine lv_aload_n hx hb dX11_farOf_0 rfl (lv_at hl 0 rfl) ?_
  refine lv_iload_n hx hb dX11_farOf_1 rfl (lv_at hl 1 rfl) ?_
  refine lv_iload_n hx hb dX11_farOf_2 rfl (lv_at hl 2 rfl) ?_
  refine lv_aload_n hx hb dX11_farOf_3 rfl (lv_at hl 0 rfl) ?_
  refine r_gR C hS fl_X11_100 rfl rfl rfl dX11_farOf_4 ?_
  obtain ⟨⟨r_1, M_2⟩, hq_3, h⟩ := ob h
  try dsimp only at h
  refine r_thenI hS (r_runV C hS hl.1 cv_X11_265 rfl (c_X11_runOf l G F x1 x2 92 M rfl _ hq_3) ⟨by decide, by decide⟩ rfl rfl (Nat.le_of_ble_eq_true rfl) ⟨Nat.zero_le _, Nat.zero_le _⟩ dX11_farOf_7) (fun H locs hS => ?_)
  refine lv_istore (lv' := [(4, .int r_1), (0, .ref (G.1 + 63)), (1, .int x1), (2, .int x2), (3, .int x3)]) hx hb dX11_farOf_10 hl (by decide) rfl (fun ls hl => ?_)
  refine lv_aload_n hx hb dX11_farOf_12 rfl (lv_at hl 1 rfl) ?_
  refine lv_iload_n hx hb dX11_farOf_13 rfl (lv_at hl 2 rfl) ?_
  refine lv_iload_n hx hb dX11_farOf_14 rfl (lv_at hl 4 rfl) ?_
  refine lv_aload_n hx hb dX11_farOf_15 rfl (lv_at hl 1 rfl) ?_
  refine r_gR C hS fl_X11_103 rfl rfl rfl dX11_farOf_16 ?_
  obtain ⟨⟨r_4, M_5⟩, hq_6, h⟩ := ob h
  try dsimp only at h
  refine r_thenI hS (r_runV C hS hl.1 cv_X11_265 rfl (c_X11_runOf l G F x1 x3 93 M_2 rfl _ hq_6) ⟨by decide, by decide⟩ rfl rfl (Nat.le_of_ble_eq_true rfl) ⟨Nat.zero_le _, Nat.zero_le _⟩ dX11_farOf_19) (fun H locs hS => ?_)
  refine lv_istore (lv' := [(5, .int r_4), (4, .int r_1), (0, .ref (G.1 + 63)), (1, .int x1), (2, .int x2), (3, .int x3)]) hx hb dX11_farOf_22 hl (by decide) rfl (fun ls hl => ?_)
  refine lv_aload_n hx hb dX11_farOf_24 rfl (lv_at hl 2 rfl) ?_
  refine lv_iload hx hb dX11_farOf_25 (lv_at hl 1 rfl) ?_
  refine lv_iload hx hb dX11_farOf_27 (lv_at hl 0 rfl) ?_
  obtain ⟨⟨r_7, M_8⟩, hq_9, h⟩ := ob h
  try dsimp only at h
  refine r_thenI hS (r_runV C hS hl.1 cv_X11_289 rfl (c_X11_distance l G F r_1 r_4 M_5  _ hq_9) ⟨by decide, by decide⟩ rfl rfl (Nat.le_of_ble_eq_true rfl) ⟨Nat.zero_le _, Nat.zero_le _⟩ dX11_farOf_29) (fun H locs hS => ?_)
  exact r_iret C hS hr hlk h dX11_farOf_32
set_option maxHeartbeats 4000000 in
set_option maxRecDepth 100000 in
theorem c_X11_far (l : Launch) (G : Gl) (F : Nat) (x1 : Int32) (x2 : Int32) (x3 : Int32) (M : zM)  (q : Int32 × zM) (h : Mod_far F x1 x2 x3 M = some q) : Met l yX11_far (wsM yX11_far cX11_far 4 (some .int)) (rmM 3 74) (Pre G M [.ref (G.1 + 63), .int x1, .int x2, .int x3]) (PoI G q) 0 0 (gA G) := by
  refine r_met (own := RX11) rfl (by decide) (Nat.le_of_ble_eq_true rfl) ?_
  intro p e s m below meth c ls C hr hlk hS hl
  have hl : lv_has ls 4 [(0, .ref (G.1 + 63)), (1, .int x1), (2, .int x2), (3, .int x3)] := hl
  obtain ⟨hx, hb, -⟩ := id C
  unfold Mod_far at h
  refine lv_iload_n hx hb dX11_far_0 rfl (lv_at hl 1 rfl) ?_
  obtain ⟨⟨r_1, M_2⟩, hq_3, h⟩ := ob h
  try dsimp only at h
  refine r_thenI hS (r_runS C hS hl.1 cs_X11_194 (c_X11_isTongue l G F x1 M  _ hq_3) ⟨by decide, by decide⟩ rfl rfl (Nat.le_of_ble_eq_true rfl) ⟨Nat.zero_le _, Nat.zero_le _⟩ dX11_far_1) (fun H locs hS => ?_)
  refine lv_if_eq (tgt := 21) hx hb dX11_far_4 (by decide) (fun c_4 => ?_) (fun c_4 => ?_)
  · replace h := ifp c_4 h
    refine lv_sipush (v := (-1001)) hx hb dX11_far_21 (by decide) ?_
    exact r_iret C hS hr hlk h dX11_far_24
  · replace h := ifn c_4 h
    refine lv_iload_n hx hb dX11_far_7 rfl (lv_at hl 2 rfl) ?_
    obtain ⟨⟨r_5, M_6⟩, hq_7, h⟩ := ob h
    try dsimp only at h
    refine r_thenI hS (r_runS C hS hl.1 cs_X11_216 (c_X11_isNumber l G F x2 M_2  _ hq_7) ⟨by decide, by decide⟩ rfl rfl (Nat.le_of_ble_eq_true rfl) ⟨Nat.zero_le _, Nat.zero_le _⟩ dX11_far_8) (fun H locs hS => ?_)
    refine lv_if_eq (tgt := 21) hx hb dX11_far_11 (by decide) (fun c_8 => ?_) (fun c_8 => ?_)
    · replace h := ifp c_8 h
      refine lv_sipush (v := (-1001)) hx hb dX11_far_21 (by decide) ?_
      exact r_iret C hS hr hlk h dX11_far_24
    · replace h := ifn c_8 h
      refine lv_iload_n hx hb dX11_far_14 rfl (lv_at hl 3 rfl) ?_
      obtain ⟨⟨r_9, M_10⟩, hq_11, h⟩ := ob h
      try dsimp only at h
      refine r_thenI hS (r_runS C hS hl.1 cs_X11_216 (c_X11_isNumber l G F x3 M_6  _ hq_11) ⟨by decide, by decide⟩ rfl rfl (Nat.le_of_ble_eq_true rfl) ⟨Nat.zero_le _, Nat.zero_le _⟩ dX11_far_15) (fun H locs hS => ?_)
      refine lv_if_ne (tgt := 25) hx hb dX11_far_18 (by decide) (fun c_12 => ?_) (fun c_12 => ?_)
      · replace h := ifn c_12 h
        refine lv_aload_n hx hb dX11_far_25 rfl (lv_at hl 0 rfl) ?_
        refine r_gR C hS fl_X11_41 rfl rfl rfl dX11_far_26 ?_
        refine lv_sipush (v := 1000) hx hb dX11_far_29 (by decide) ?_
        refine lv_iload_n hx hb dX11_far_32 rfl (lv_at hl 1 rfl) ?_
        refine lv_imul hx hb dX11_far_33 ?_
        refine lv_iload_n hx hb dX11_far_34 rfl (lv_at hl 2 rfl) ?_
        refine lv_iadd hx hb dX11_far_35 ?_
        obtain ⟨b_13, h⟩ := ift h
        refine r_iald C hS rfl rfl b_13 dX11_far_36 ?_
        refine lv_if_lt (tgt := 55) hx hb dX11_far_37 (by decide) (fun c_14 => ?_) (fun c_14 => ?_)
        · replace h := ifp c_14 h
          refine lv_iconst (v := (-1)) hx hb dX11_far_55 (by decide) ?_
          refine lv_goto (tgt := 66) hx hb dX11_far_56 (by decide) ?_
          exact r_iret C hS hr hlk h dX11_far_66
        · replace h := ifn c_14 h
          refine lv_aload_n hx hb dX11_far_40 rfl (lv_at hl 0 rfl) ?_
          refine r_gR C hS fl_X11_41 rfl rfl rfl dX11_far_41 ?_
          refine lv_sipush (v := 1000) hx hb dX11_far_44 (by decide) ?_
          refine lv_iload_n hx hb dX11_far_47 rfl (lv_at hl 1 rfl) ?_
          refine lv_imul hx hb dX11_far_48 ?_
          refine lv_iload_n hx hb dX11_far_49 rfl (lv_at hl 3 rfl) ?_
          refine lv_iadd hx hb dX11_far_50 ?_
          obtain ⟨b_15, h⟩ := ift h
          refine r_iald C hS rfl rfl b_15 dX11_far_51 ?_
          refine lv_if_ge (tgt := 59) hx hb dX11_far_52 (by decide) (fun c_16 => ?_) (fun c_16 => ?_)
          · replace h := ifp c_16 h
            refine lv_aload_n hx hb dX11_far_59 rfl (lv_at hl 0 rfl) ?_
            refine lv_iload_n hx hb dX11_far_60 rfl (lv_at hl 1 rfl) ?_
            refine lv_iload_n hx hb dX11_far_61 rfl (lv_at hl 2 rfl) ?_
            refine lv_iload_n hx hb dX11_far_62 rfl (lv_at hl 3 rfl) ?_
            obtain ⟨⟨r_17, M_18⟩, hq_19, h⟩ := ob h
            try dsimp only at h
            refine r_thenI hS (r_runV C hS hl.1 cv_X11_292 rfl (c_X11_farOf l G F x1 x2 x3 M_10  _ hq_19) ⟨by decide, by decide⟩ rfl rfl (Nat.le_of_ble_eq_true rfl) ⟨Nat.zero_le _, Nat.zero_le _⟩ dX11_far_63) (fun H locs hS => ?_)
            exact r_iret C hS hr hlk h dX11_far_66
          · replace h := ifn c_16 h
            refine lv_iconst (v := (-1)) hx hb dX11_far_55 (by decide) ?_
            refine lv_goto (tgt := 66) hx hb dX11_far_56 (by decide) ?_
            exact r_iret C hS hr hlk h dX11_far_66
      · replace h := ifp c_12 h
        refine lv_sipush (v := (-1001)) hx hb dX11_far_21 (by decide) ?_
        exact r_iret C hS hr hlk h dX11_far_24
def E_Mod_mixed_64 (G : Gl) (p : Program) (l : Launch) (e : Env) (s : State) (m : MethodId) (args : Array Value) (below : List Frame) (meth : Method) (c : Code) (Q : State → Prop) (x1 : Int32) (x2 : Int32) (x4 : Int32) : Nat → (Int32 × Int32 × zM) → Prop := fun k (x5, x6, M) => match k with
  | 0 => ∀ (H : Heap) (locs : List Loc) (ls : Array Slot), St G M s H locs → lv_has ls 9 [(0, .ref (G.1 + 63)), (1, .int x1), (2, .int x2), (4, .int x4), (5, .int x5), (6, .int x6)] → W p l e (rmM 3 74) s m args below meth c H locs 0 0 Q (F0 m 64 ls [])
  | 1 => ∀ (H : Heap) (locs : List Loc) (ls : Array Slot), St G M s H locs → lv_has ls 9 [(5, .int x5)] → W p l e (rmM 3 74) s m args below meth c H locs 0 0 Q (F0 m 163 ls [])
  | _ => True
def E_Mod_mixed_77 (G : Gl) (p : Program) (l : Launch) (e : Env) (s : State) (m : MethodId) (args : Array Value) (below : List Frame) (meth : Method) (c : Code) (Q : State → Prop) (x1 : Int32) (x2 : Int32) (x4 : Int32) (x6 : Int32) : Nat → (Int32 × Int32 × zM) → Prop := fun k (x5, x7, M) => match k with
  | 0 => ∀ (H : Heap) (locs : List Loc) (ls : Array Slot), St G M s H locs → lv_has ls 9 [(0, .ref (G.1 + 63)), (1, .int x1), (2, .int x2), (4, .int x4), (5, .int x5), (6, .int x6), (7, .int x7)] → W p l e (rmM 3 74) s m args below meth c H locs 0 0 Q (F0 m 77 ls [])
  | 1 => ∀ (H : Heap) (locs : List Loc) (ls : Array Slot), St G M s H locs → lv_has ls 9 [(0, .ref (G.1 + 63)), (1, .int x1), (2, .int x2), (4, .int x4), (5, .int x5), (6, .int x6)] → W p l e (rmM 3 74) s m args below meth c H locs 0 0 Q (F0 m 157 ls [])
  | _ => True
set_option maxHeartbeats 4000000 in
set_option maxRecDepth 100000 in
theorem w_Mod_mixed_J121 {G : Gl} {p : Program} {l : Launch} {e : Env} {s : State} {m : MethodId} {args : Array Value} {below : List Frame} {meth : Method} {c : Code} {Q : State → Prop} (C : Cx G cX11_mixed 9 RX11 p s m args c) (x1 : Int32) (x2 : Int32) (x4 : Int32) (x6 : Int32) (F : Nat) (x5 : Int32) (x7 : Int32) (y0 : Int32) (M : zM)  (q : Nat × (Int32 × Int32 × zM)) (h : Mod_mixed_J121 F x1 x2 x4 x5 x6 x7 y0 M = some q) (hE : (E_Mod_mixed_77 G p l e s m args below meth c Q x1 x2 x4 x6) q.1 q.2) (H : Heap) (locs : List Loc) (ls : Array Slot) (hS : St G M s H locs) (hl : lv_has ls 9 [(0, .ref (G.1 + 63)), (1, .int x1), (2, .int x2), (4, .int x4), (5, .int x5), (6, .int x6), (7, .int x7)]) : W p l e (rmM 3 74) s m args below meth c H locs 0 0 Q (F0 m 121 ls [.int y0]) := by
  obtain ⟨hx, hb, -⟩ := id C
  unfold Mod_mixed_J121 at h
  refine lv_istore (lv' := [(8, .int y0), (0, .ref (G.1 + 63)), (1, .int x1), (2, .int x2), (4, .int x4), (5, .int x5), (6, .int x6), (7, .int x7)]) hx hb dX11_mixed_121 hl (by decide) rfl (fun ls hl => ?_)
  refine lv_iload hx hb dX11_mixed_123 (lv_at hl 5 rfl) ?_
  refine lv_iload hx hb dX11_mixed_125 (lv_at hl 0 rfl) ?_
  refine lv_if_eq (tgt := 147) hx hb dX11_mixed_127 (by decide) (fun c_27 => ?_) (fun c_27 => ?_)
  · replace h := ifp c_27 h
    refine lv_iconst (v := 0) hx hb dX11_mixed_147 (by decide) ?_
    refine lv_iadd hx hb dX11_mixed_148 ?_
    obtain ⟨x5_28, e_29, h⟩ := olt h
    refine r_nI e_29 ?_
    refine lv_istore (lv' := [(5, .int x5_28), (8, .int y0), (0, .ref (G.1 + 63)), (1, .int x1), (2, .int x2), (4, .int x4), (6, .int x6), (7, .int x7)]) hx hb dX11_mixed_149 hl (by decide) rfl (fun ls hl => ?_)
    obtain ⟨x7_30, e_31, h⟩ := olt h
    refine lv_iinc (v := x7_30) (lv' := [(7, .int x7_30), (5, .int x5_28), (8, .int y0), (0, .ref (G.1 + 63)), (1, .int x1), (2, .int x2), (4, .int x4), (6, .int x6)]) hx hb dX11_mixed_151 hl (k := 7) rfl (by rw [e_31]; rfl) (by decide) rfl (fun ls hl => ?_)
    refine lv_goto (tgt := 77) hx hb dX11_mixed_154 (by decide) ?_
    obtain rfl := Option.some.inj h
    exact hE _ _ _ hS (lv_sub hl [3, 4, 5, 6, 1, 7, 0] rfl)
  · replace h := ifn c_27 h
    refine lv_aload_n hx hb dX11_mixed_130 rfl (lv_at hl 1 rfl) ?_
    refine lv_iload_n hx hb dX11_mixed_131 rfl (lv_at hl 2 rfl) ?_
    refine lv_iload hx hb dX11_mixed_132 (lv_at hl 6 rfl) ?_
    refine lv_iload hx hb dX11_mixed_134 (lv_at hl 7 rfl) ?_
    obtain ⟨⟨r_32, M_33⟩, hq_34, h⟩ := ob h
    try dsimp only at h
    refine r_thenI hS (r_runV C hS hl.1 cv_X11_292 rfl (c_X11_farOf l G F x1 x6 x7 M  _ hq_34) ⟨by decide, by decide⟩ rfl rfl (Nat.le_of_ble_eq_true rfl) ⟨Nat.zero_le _, Nat.zero_le _⟩ dX11_mixed_136) (fun H locs hS => ?_)
    refine lv_iload_n hx hb dX11_mixed_139 rfl (lv_at hl 3 rfl) ?_
    refine lv_icmp_gt (tgt := 147) hx hb dX11_mixed_140 (by decide) (fun c_35 => ?_) (fun c_35 => ?_)
    · replace h := ifp c_35 h
      refine lv_iconst (v := 0) hx hb dX11_mixed_147 (by decide) ?_
      refine lv_iadd hx hb dX11_mixed_148 ?_
      obtain ⟨x5_36, e_37, h⟩ := olt h
      refine r_nI e_37 ?_
      refine lv_istore (lv' := [(5, .int x5_36), (8, .int y0), (0, .ref (G.1 + 63)), (1, .int x1), (2, .int x2), (4, .int x4), (6, .int x6), (7, .int x7)]) hx hb dX11_mixed_149 hl (by decide) rfl (fun ls hl => ?_)
      obtain ⟨x7_38, e_39, h⟩ := olt h
      refine lv_iinc (v := x7_38) (lv' := [(7, .int x7_38), (5, .int x5_36), (8, .int y0), (0, .ref (G.1 + 63)), (1, .int x1), (2, .int x2), (4, .int x4), (6, .int x6)]) hx hb dX11_mixed_151 hl (k := 7) rfl (by rw [e_39]; rfl) (by decide) rfl (fun ls hl => ?_)
      refine lv_goto (tgt := 77) hx hb dX11_mixed_154 (by decide) ?_
      obtain rfl := Option.some.inj h
      exact hE _ _ _ hS (lv_sub hl [3, 4, 5, 6, 1, 7, 0] rfl)
    · replace h := ifn c_35 h
      refine lv_iconst (v := 1) hx hb dX11_mixed_143 (by decide) ?_
      refine lv_goto (tgt := 148) hx hb dX11_mixed_144 (by decide) ?_
      refine lv_iadd hx hb dX11_mixed_148 ?_
      obtain ⟨x5_40, e_41, h⟩ := olt h
      refine r_nI e_41 ?_
      refine lv_istore (lv' := [(5, .int x5_40), (8, .int y0), (0, .ref (G.1 + 63)), (1, .int x1), (2, .int x2), (4, .int x4), (6, .int x6), (7, .int x7)]) hx hb dX11_mixed_149 hl (by decide) rfl (fun ls hl => ?_)
      obtain ⟨x7_42, e_43, h⟩ := olt h
      refine lv_iinc (v := x7_42) (lv' := [(7, .int x7_42), (5, .int x5_40), (8, .int y0), (0, .ref (G.1 + 63)), (1, .int x1), (2, .int x2), (4, .int x4), (6, .int x6)]) hx hb dX11_mixed_151 hl (k := 7) rfl (by rw [e_43]; rfl) (by decide) rfl (fun ls hl => ?_)
      refine lv_goto (tgt := 77) hx hb dX11_mixed_154 (by decide) ?_
      obtain rfl := Option.some.inj h
      exact hE _ _ _ hS (lv_sub hl [3, 4, 5, 6, 1, 7, 0] rfl)
set_option maxHeartbeats 4000000 in
set_option maxRecDepth 100000 in
theorem w_Mod_mixed_J120 {G : Gl} {p : Program} {l : Launch} {e : Env} {s : State} {m : MethodId} {args : Array Value} {below : List Frame} {meth : Method} {c : Code} {Q : State → Prop} (C : Cx G cX11_mixed 9 RX11 p s m args c) (x1 : Int32) (x2 : Int32) (x4 : Int32) (x6 : Int32) (F : Nat) (x5 : Int32) (x7 : Int32) (M : zM)  (q : Nat × (Int32 × Int32 × zM)) (h : Mod_mixed_J120 F x1 x2 x4 x5 x6 x7 M = some q) (hE : (E_Mod_mixed_77 G p l e s m args below meth c Q x1 x2 x4 x6) q.1 q.2) (H : Heap) (locs : List Loc) (ls : Array Slot) (hS : St G M s H locs) (hl : lv_has ls 9 [(0, .ref (G.1 + 63)), (1, .int x1), (2, .int x2), (4, .int x4), (5, .int x5), (6, .int x6), (7, .int x7)]) : W p l e (rmM 3 74) s m args below meth c H locs 0 0 Q (F0 m 120 ls []) := by
  obtain ⟨hx, hb, -⟩ := id C
  unfold Mod_mixed_J120 at h
  refine lv_iconst (v := 0) hx hb dX11_mixed_120 (by decide) ?_
  exact w_Mod_mixed_J121 C x1 x2 x4 x6 F x5 x7 0 M  q h hE _ _ _ hS (lv_sub hl [0, 1, 2, 3, 4, 5, 6] rfl)
set_option maxHeartbeats 4000000 in
set_option maxRecDepth 100000 in
theorem w_Mod_mixed_B77 {G : Gl} {p : Program} {l : Launch} {e : Env} {s : State} {m : MethodId} {args : Array Value} {below : List Frame} {meth : Method} {c : Code} {Q : State → Prop} (C : Cx G cX11_mixed 9 RX11 p s m args c) (x1 : Int32) (x2 : Int32) (x4 : Int32) (x6 : Int32) (F : Nat) : ∀ (σ : (Int32 × Int32 × zM)) (q : Nat × (Int32 × Int32 × zM)), Mod_mixed_B77 F x1 x2 x4 x6 σ = some q → (E_Mod_mixed_77 G p l e s m args below meth c Q x1 x2 x4 x6) q.1 q.2 → (E_Mod_mixed_77 G p l e s m args below meth c Q x1 x2 x4 x6) 0 σ := by
  intro (x5, x7, M) q h hE H locs ls hS hl
  obtain ⟨hx, hb, -⟩ := id C
  unfold Mod_mixed_B77 at h
  try dsimp only at h
  refine lv_iload hx hb dX11_mixed_77 (lv_at hl 6 rfl) ?_
  refine lv_iload hx hb dX11_mixed_79 (lv_at hl 3 rfl) ?_
  refine lv_icmp_gt (tgt := 157) hx hb dX11_mixed_81 (by decide) (fun c_24 => ?_) (fun c_24 => ?_)
  · replace h := ifp c_24 h
    obtain rfl := Option.some.inj h
    exact hE _ _ _ hS (lv_sub hl [0, 1, 2, 3, 4, 5] rfl)
  · replace h := ifn c_24 h
    refine lv_aload_n hx hb dX11_mixed_84 rfl (lv_at hl 0 rfl) ?_
    refine r_gR C hS fl_X11_41 rfl rfl rfl dX11_mixed_85 ?_
    refine lv_sipush (v := 1000) hx hb dX11_mixed_88 (by decide) ?_
    refine lv_iload_n hx hb dX11_mixed_91 rfl (lv_at hl 1 rfl) ?_
    refine lv_imul hx hb dX11_mixed_92 ?_
    refine lv_iload hx hb dX11_mixed_93 (lv_at hl 5 rfl) ?_
    refine lv_iadd hx hb dX11_mixed_95 ?_
    obtain ⟨b_25, h⟩ := ift h
    refine r_iald C hS rfl rfl b_25 dX11_mixed_96 ?_
    refine lv_if_lt (tgt := 120) hx hb dX11_mixed_97 (by decide) (fun c_26 => ?_) (fun c_26 => ?_)
    · replace h := ifp c_26 h
      exact w_Mod_mixed_J120 C x1 x2 x4 x6 F x5 x7 M  q h hE _ _ _ hS (lv_sub hl [0, 1, 2, 3, 4, 5, 6] rfl)
    · replace h := ifn c_26 h
      refine lv_aload_n hx hb dX11_mixed_100 rfl (lv_at hl 0 rfl) ?_
      refine r_gR C hS fl_X11_41 rfl rfl rfl dX11_mixed_101 ?_
      refine lv_sipush (v := 1000) hx hb dX11_mixed_104 (by decide) ?_
      refine lv_iload_n hx hb dX11_mixed_107 rfl (lv_at hl 1 rfl) ?_
      refine lv_imul hx hb dX11_mixed_108 ?_
      refine lv_iload hx hb dX11_mixed_109 (lv_at hl 6 rfl) ?_
      refine lv_iadd hx hb dX11_mixed_111 ?_
      obtain ⟨b_44, h⟩ := ift h
      refine r_iald C hS rfl rfl b_44 dX11_mixed_112 ?_
      refine lv_if_lt (tgt := 120) hx hb dX11_mixed_113 (by decide) (fun c_45 => ?_) (fun c_45 => ?_)
      · replace h := ifp c_45 h
        exact w_Mod_mixed_J120 C x1 x2 x4 x6 F x5 x7 M  q h hE _ _ _ hS (lv_sub hl [0, 1, 2, 3, 4, 5, 6] rfl)
      · replace h := ifn c_45 h
        refine lv_iconst (v := 1) hx hb dX11_mixed_116 (by decide) ?_
        refine lv_goto (tgt := 121) hx hb dX11_mixed_117 (by decide) ?_
        exact w_Mod_mixed_J121 C x1 x2 x4 x6 F x5 x7 1 M  q h hE _ _ _ hS (lv_sub hl [0, 1, 2, 3, 4, 5, 6] rfl)
set_option maxHeartbeats 4000000 in
set_option maxRecDepth 100000 in
theorem w_Mod_mixed_B64 {G : Gl} {p : Program} {l : Launch} {e : Env} {s : State} {m : MethodId} {args : Array Value} {below : List Frame} {meth : Method} {c : Code} {Q : State → Prop} (C : Cx G cX11_mixed 9 RX11 p s m args c) (x1 : Int32) (x2 : Int32) (x4 : Int32) (F : Nat) : ∀ (σ : (Int32 × Int32 × zM)) (q : Nat × (Int32 × Int32 × zM)), Mod_mixed_B64 F x1 x2 x4 σ = some q → (E_Mod_mixed_64 G p l e s m args below meth c Q x1 x2 x4) q.1 q.2 → (E_Mod_mixed_64 G p l e s m args below meth c Q x1 x2 x4) 0 σ := by
  intro (x5, x6, M) q h hE H locs ls hS hl
  obtain ⟨hx, hb, -⟩ := id C
  unfold Mod_mixed_B64 at h
  try dsimp only at h
  refine lv_iload hx hb dX11_mixed_64 (lv_at hl 5 rfl) ?_
  refine lv_iload hx hb dX11_mixed_66 (lv_at hl 3 rfl) ?_
  refine lv_icmp_gt (tgt := 163) hx hb dX11_mixed_68 (by decide) (fun c_21 => ?_) (fun c_21 => ?_)
  · replace h := ifp c_21 h
    obtain rfl := Option.some.inj h
    exact hE _ _ _ hS (lv_sub hl [4] rfl)
  · replace h := ifn c_21 h
    refine lv_iload hx hb dX11_mixed_71 (lv_at hl 5 rfl) ?_
    refine lv_iconst (v := 1) hx hb dX11_mixed_73 (by decide) ?_
    refine lv_iadd hx hb dX11_mixed_74 ?_
    obtain ⟨x7_22, e_23, h⟩ := olt h
    refine r_nI e_23 ?_
    refine lv_istore (lv' := [(7, .int x7_22), (0, .ref (G.1 + 63)), (1, .int x1), (2, .int x2), (4, .int x4), (5, .int x5), (6, .int x6)]) hx hb dX11_mixed_75 hl (by decide) rfl (fun ls hl => ?_)
    obtain ⟨⟨k_49, x5_46, x7_47, M_48⟩, hq_50, h⟩ := ob h
    try dsimp only at h
    refine loopW (E := (E_Mod_mixed_77 G p l e s m _ below meth c _ x1 x2 x4 x6)) (w_Mod_mixed_B77 C x1 x2 x4 x6 F) F _ _ hq_50 ?_ _ _ _ hS (lv_sub hl [1, 2, 3, 4, 5, 6, 0] rfl)
    by_cases ek_53 : k_49 = 1
    · replace h := ifp ek_53 h
      subst ek_53
      intro H locs ls hS hl
      obtain ⟨x6_51, e_52, h⟩ := olt h
      refine lv_iinc (v := x6_51) (lv' := [(6, .int x6_51), (0, .ref (G.1 + 63)), (1, .int x1), (2, .int x2), (4, .int x4), (5, .int x5_46)]) hx hb dX11_mixed_157 hl (k := 5) rfl (by rw [e_52]; rfl) (by decide) rfl (fun ls hl => ?_)
      refine lv_goto (tgt := 64) hx hb dX11_mixed_160 (by decide) ?_
      obtain rfl := Option.some.inj h
      exact hE _ _ _ hS (lv_sub hl [1, 2, 3, 4, 5, 0] rfl)
    · replace h := ifn ek_53 h
      cases h
set_option maxHeartbeats 4000000 in
set_option maxRecDepth 100000 in
theorem c_X11_mixed (l : Launch) (G : Gl) (F : Nat) (x1 : Int32) (x2 : Int32) (x3 : Int32) (x4 : Int32) (M : zM)  (q : Int32 × zM) (h : Mod_mixed F x1 x2 x3 x4 M = some q) : Met l yX11_mixed (wsM yX11_mixed cX11_mixed 9 (some .int)) (rmM 3 74) (Pre G M [.ref (G.1 + 63), .int x1, .int x2, .int x3, .int x4]) (PoI G q) 0 0 (gA G) := by
  refine r_met (own := RX11) rfl (by decide) (Nat.le_of_ble_eq_true rfl) ?_
  intro p e s m below meth c ls C hr hlk hS hl
  have hl : lv_has ls 9 [(0, .ref (G.1 + 63)), (1, .int x1), (2, .int x2), (3, .int x3), (4, .int x4)] := hl
  obtain ⟨hx, hb, -⟩ := id C
  unfold Mod_mixed at h
  refine lv_iload_n hx hb dX11_mixed_0 rfl (lv_at hl 1 rfl) ?_
  obtain ⟨⟨r_1, M_2⟩, hq_3, h⟩ := ob h
  try dsimp only at h
  refine r_thenI hS (r_runS C hS hl.1 cs_X11_194 (c_X11_isTongue l G F x1 M  _ hq_3) ⟨by decide, by decide⟩ rfl rfl (Nat.le_of_ble_eq_true rfl) ⟨Nat.zero_le _, Nat.zero_le _⟩ dX11_mixed_1) (fun H locs hS => ?_)
  refine lv_if_eq (tgt := 22) hx hb dX11_mixed_4 (by decide) (fun c_4 => ?_) (fun c_4 => ?_)
  · replace h := ifp c_4 h
    refine lv_sipush (v := (-1001)) hx hb dX11_mixed_22 (by decide) ?_
    exact r_iret C hS hr hlk h dX11_mixed_25
  · replace h := ifn c_4 h
    refine lv_iload_n hx hb dX11_mixed_7 rfl (lv_at hl 3 rfl) ?_
    obtain ⟨⟨r_5, M_6⟩, hq_7, h⟩ := ob h
    try dsimp only at h
    refine r_thenI hS (r_runS C hS hl.1 cs_X11_216 (c_X11_isNumber l G F x3 M_2  _ hq_7) ⟨by decide, by decide⟩ rfl rfl (Nat.le_of_ble_eq_true rfl) ⟨Nat.zero_le _, Nat.zero_le _⟩ dX11_mixed_8) (fun H locs hS => ?_)
    refine lv_if_eq (tgt := 22) hx hb dX11_mixed_11 (by decide) (fun c_8 => ?_) (fun c_8 => ?_)
    · replace h := ifp c_8 h
      refine lv_sipush (v := (-1001)) hx hb dX11_mixed_22 (by decide) ?_
      exact r_iret C hS hr hlk h dX11_mixed_25
    · replace h := ifn c_8 h
      refine lv_iload hx hb dX11_mixed_14 (lv_at hl 4 rfl) ?_
      obtain ⟨⟨r_9, M_10⟩, hq_11, h⟩ := ob h
      try dsimp only at h
      refine r_thenI hS (r_runS C hS hl.1 cs_X11_216 (c_X11_isNumber l G F x4 M_6  _ hq_11) ⟨by decide, by decide⟩ rfl rfl (Nat.le_of_ble_eq_true rfl) ⟨Nat.zero_le _, Nat.zero_le _⟩ dX11_mixed_16) (fun H locs hS => ?_)
      refine lv_if_ne (tgt := 26) hx hb dX11_mixed_19 (by decide) (fun c_12 => ?_) (fun c_12 => ?_)
      · replace h := ifn c_12 h
        refine lv_iload_n hx hb dX11_mixed_26 rfl (lv_at hl 2 rfl) ?_
        refine lv_i2l (v := x2.toInt64) hx hb dX11_mixed_27 rfl ?_
        refine lv_lconst (v := 0) hx hb dX11_mixed_28 (by decide) ?_
        refine lv_ldc2 hx hb C.2.2.2.1 (C.2.2.2.2.1 _ tw_1272) dX11_mixed_29 ?_
        obtain ⟨⟨r_13, M_14⟩, hq_15, h⟩ := ob h
        try dsimp only at h
        refine r_thenI hS (r_runS C hS hl.1 cs_X11_123 (c_X11_in l G F x2.toInt64 0 9 M_10  _ hq_15) ⟨by decide, by decide⟩ rfl rfl (Nat.le_of_ble_eq_true rfl) ⟨Nat.zero_le _, Nat.zero_le _⟩ dX11_mixed_32) (fun H locs hS => ?_)
        refine lv_if_eq (tgt := 54) hx hb dX11_mixed_35 (by decide) (fun c_16 => ?_) (fun c_16 => ?_)
        · replace h := ifp c_16 h
          refine lv_sipush (v := (-1002)) hx hb dX11_mixed_54 (by decide) ?_
          exact r_iret C hS hr hlk h dX11_mixed_57
        · replace h := ifn c_16 h
          refine lv_iload hx hb dX11_mixed_38 (lv_at hl 4 rfl) ?_
          refine lv_i2l (v := x4.toInt64) hx hb dX11_mixed_40 rfl ?_
          refine lv_iload_n hx hb dX11_mixed_41 rfl (lv_at hl 3 rfl) ?_
          refine lv_i2l (v := x3.toInt64) hx hb dX11_mixed_42 rfl ?_
          refine lv_iload_n hx hb dX11_mixed_43 rfl (lv_at hl 3 rfl) ?_
          refine lv_bipush (v := 60) hx hb dX11_mixed_44 (by decide) ?_
          refine lv_iadd hx hb dX11_mixed_46 ?_
          refine lv_i2l (v := (x3 + 60).toInt64) hx hb dX11_mixed_47 rfl ?_
          obtain ⟨⟨r_17, M_18⟩, hq_19, h⟩ := ob h
          try dsimp only at h
          refine r_thenI hS (r_runS C hS hl.1 cs_X11_123 (c_X11_in l G F x4.toInt64 x3.toInt64 ((x3 + 60).toInt64) M_14  _ hq_19) ⟨by decide, by decide⟩ rfl rfl (Nat.le_of_ble_eq_true rfl) ⟨Nat.zero_le _, Nat.zero_le _⟩ dX11_mixed_48) (fun H locs hS => ?_)
          refine lv_if_ne (tgt := 58) hx hb dX11_mixed_51 (by decide) (fun c_20 => ?_) (fun c_20 => ?_)
          · replace h := ifn c_20 h
            refine lv_iconst (v := 0) hx hb dX11_mixed_58 (by decide) ?_
            refine lv_istore (lv' := [(5, .int 0), (0, .ref (G.1 + 63)), (1, .int x1), (2, .int x2), (3, .int x3), (4, .int x4)]) hx hb dX11_mixed_59 hl (by decide) rfl (fun ls hl => ?_)
            refine lv_iload_n hx hb dX11_mixed_61 rfl (lv_at hl 4 rfl) ?_
            refine lv_istore (lv' := [(6, .int x3), (5, .int 0), (0, .ref (G.1 + 63)), (1, .int x1), (2, .int x2), (3, .int x3), (4, .int x4)]) hx hb dX11_mixed_62 hl (by decide) rfl (fun ls hl => ?_)
            obtain ⟨⟨k_57, x5_54, x6_55, M_56⟩, hq_58, h⟩ := ob h
            try dsimp only at h
            refine loopW (E := (E_Mod_mixed_64 G p l e s m _ below meth c _ x1 x2 x4)) (w_Mod_mixed_B64 C x1 x2 x4 F) F _ _ hq_58 ?_ _ _ _ hS (lv_sub hl [2, 3, 4, 6, 1, 0] rfl)
            by_cases ek_59 : k_57 = 1
            · replace h := ifp ek_59 h
              subst ek_59
              intro H locs ls hS hl
              refine lv_iload hx hb dX11_mixed_163 (lv_at hl 0 rfl) ?_
              exact r_iret C hS hr hlk h dX11_mixed_165
            · replace h := ifn ek_59 h
              cases h
          · replace h := ifp c_20 h
            refine lv_sipush (v := (-1002)) hx hb dX11_mixed_54 (by decide) ?_
            exact r_iret C hS hr hlk h dX11_mixed_57
      · replace h := ifp c_12 h
        refine lv_sipush (v := (-1001)) hx hb dX11_mixed_22 (by decide) ?_
        exact r_iret C hS hr hlk h dX11_mixed_25
def E_Mod_findNine_96 (G : Gl) (p : Program) (l : Launch) (e : Env) (s : State) (m : MethodId) (args : Array Value) (below : List Frame) (meth : Method) (c : Code) (Q : State → Prop)  : Nat → (Int32 × Int32 × zM) → Prop := fun k (x4, x5, M) => match k with
  | 0 => ∀ (H : Heap) (locs : List Loc) (ls : Array Slot), St G M s H locs → lv_has ls 6 [(0, .ref (G.1 + 63)), (4, .int x4), (5, .int x5)] → W p l e (rmM 2 45) s m args below meth c H locs 0 0 Q (F0 m 96 ls [])
  | 1 => ∀ (H : Heap) (locs : List Loc) (ls : Array Slot), St G M s H locs → lv_has ls 6 [(4, .int x4)] → W p l e (rmM 2 45) s m args below meth c H locs 0 0 Q (F0 m 134 ls [])
  | _ => True
set_option maxHeartbeats 4000000 in
set_option maxRecDepth 100000 in
theorem w_Mod_findNine_B96 {G : Gl} {p : Program} {l : Launch} {e : Env} {s : State} {m : MethodId} {args : Array Value} {below : List Frame} {meth : Method} {c : Code} {Q : State → Prop} (C : Cx G cX11_findNine 6 RX11 p s m args c)  (F : Nat) : ∀ (σ : (Int32 × Int32 × zM)) (q : Nat × (Int32 × Int32 × zM)), Mod_findNine_B96 F  σ = some q → (E_Mod_findNine_96 G p l e s m args below meth c Q ) q.1 q.2 → (E_Mod_findNine_96 G p l e s m args below meth c Q ) 0 σ := by
  intro (x4, x5, M) q h hE H locs ls hS hl
  obtain ⟨hx, hb, -⟩ := id C
  unfold Mod_findNine_B96 at h
  try dsimp only at h
  refine lv_iload hx hb dX11_findNine_96 (lv_at hl 2 rfl) ?_
  refine lv_bipush (v := 9) hx hb dX11_findNine_98 (by decide) ?_
  refine lv_icmp_ge (tgt := 134) hx hb dX11_findNine_100 (by decide) (fun c_28 => ?_) (fun c_28 => ?_)
  · replace h := ifp c_28 h
    obtain rfl := Option.some.inj h
    exact hE _ _ _ hS (lv_sub hl [1] rfl)
  · replace h := ifn c_28 h
    refine lv_iload hx hb dX11_findNine_103 (lv_at hl 1 rfl) ?_
    refine lv_if_eq (tgt := 125) hx hb dX11_findNine_105 (by decide) (fun c_29 => ?_) (fun c_29 => ?_)
    · replace h := ifp c_29 h
      refine lv_iconst (v := 0) hx hb dX11_findNine_125 (by decide) ?_
      refine lv_istore (lv' := [(4, .int 0), (0, .ref (G.1 + 63)), (5, .int x5)]) hx hb dX11_findNine_126 hl (by decide) rfl (fun ls hl => ?_)
      obtain ⟨x5_30, e_31, h⟩ := olt h
      refine lv_iinc (v := x5_30) (lv' := [(5, .int x5_30), (4, .int 0), (0, .ref (G.1 + 63))]) hx hb dX11_findNine_128 hl (k := 2) rfl (by rw [e_31]; rfl) (by decide) rfl (fun ls hl => ?_)
      refine lv_goto (tgt := 96) hx hb dX11_findNine_131 (by decide) ?_
      obtain rfl := Option.some.inj h
      exact hE _ _ _ hS (lv_sub hl [2, 1, 0] rfl)
    · replace h := ifn c_29 h
      refine lv_aload_n hx hb dX11_findNine_108 rfl (lv_at hl 0 rfl) ?_
      refine r_gR C hS fl_X11_118 rfl rfl rfl dX11_findNine_109 ?_
      refine lv_iload hx hb dX11_findNine_112 (lv_at hl 2 rfl) ?_
      obtain ⟨b_32, h⟩ := ift h
      refine r_iald C hS rfl rfl b_32 dX11_findNine_114 ?_
      obtain ⟨⟨r_33, M_34⟩, hq_35, h⟩ := ob h
      try dsimp only at h
      refine r_thenI hS (r_runS C hS hl.1 cs_X11_216 (c_X11_isNumber l G F (M.1 98 x5.toNatClampNeg) M  _ hq_35) ⟨by decide, by decide⟩ rfl rfl (Nat.le_of_ble_eq_true rfl) ⟨Nat.zero_le _, Nat.zero_le _⟩ dX11_findNine_115) (fun H locs hS => ?_)
      refine lv_if_eq (tgt := 125) hx hb dX11_findNine_118 (by decide) (fun c_36 => ?_) (fun c_36 => ?_)
      · replace h := ifp c_36 h
        refine lv_iconst (v := 0) hx hb dX11_findNine_125 (by decide) ?_
        refine lv_istore (lv' := [(4, .int 0), (0, .ref (G.1 + 63)), (5, .int x5)]) hx hb dX11_findNine_126 hl (by decide) rfl (fun ls hl => ?_)
        obtain ⟨x5_37, e_38, h⟩ := olt h
        refine lv_iinc (v := x5_37) (lv' := [(5, .int x5_37), (4, .int 0), (0, .ref (G.1 + 63))]) hx hb dX11_findNine_128 hl (k := 2) rfl (by rw [e_38]; rfl) (by decide) rfl (fun ls hl => ?_)
        refine lv_goto (tgt := 96) hx hb dX11_findNine_131 (by decide) ?_
        obtain rfl := Option.some.inj h
        exact hE _ _ _ hS (lv_sub hl [2, 1, 0] rfl)
      · replace h := ifn c_36 h
        refine lv_iconst (v := 1) hx hb dX11_findNine_121 (by decide) ?_
        refine lv_goto (tgt := 126) hx hb dX11_findNine_122 (by decide) ?_
        refine lv_istore (lv' := [(4, .int 1), (0, .ref (G.1 + 63)), (5, .int x5)]) hx hb dX11_findNine_126 hl (by decide) rfl (fun ls hl => ?_)
        obtain ⟨x5_39, e_40, h⟩ := olt h
        refine lv_iinc (v := x5_39) (lv' := [(5, .int x5_39), (4, .int 1), (0, .ref (G.1 + 63))]) hx hb dX11_findNine_128 hl (k := 2) rfl (by rw [e_40]; rfl) (by decide) rfl (fun ls hl => ?_)
        refine lv_goto (tgt := 96) hx hb dX11_findNine_131 (by decide) ?_
        obtain rfl := Option.some.inj h
        exact hE _ _ _ hS (lv_sub hl [2, 1, 0] rfl)
set_option maxHeartbeats 4000000 in
set_option maxRecDepth 100000 in
theorem c_X11_findNine (l : Launch) (G : Gl) (F : Nat) (x1 : Int32) (x2 : Int32) (x3 : Int32) (M : zM)  (q : Int32 × zM) (h : Mod_findNine F x1 x2 x3 M = some q) : Met l yX11_findNine (wsM yX11_findNine cX11_findNine 6 (some .boolean)) (rmM 2 45) (Pre G M [.ref (G.1 + 63), .int x1, .int x2, .int x3]) (PoI G q) 0 0 (gA G) := by
  refine r_met (own := RX11) rfl (by decide) (Nat.le_of_ble_eq_true rfl) ?_
  intro p e s m below meth c ls C hr hlk hS hl
  have hl : lv_has ls 6 [(0, .ref (G.1 + 63)), (1, .int x1), (2, .int x2), (3, .int x3)] := hl
  obtain ⟨hx, hb, -⟩ := id C
  unfold Mod_findNine at h
  refine lv_aload_n hx hb dX11_findNine_0 rfl (lv_at hl 0 rfl) ?_
  refine r_gR C hS fl_X11_118 rfl rfl rfl dX11_findNine_1 ?_
  refine lv_iconst (v := 0) hx hb dX11_findNine_4 (by decide) ?_
  refine lv_iload_n hx hb dX11_findNine_5 rfl (lv_at hl 1 rfl) ?_
  refine lv_iload_n hx hb dX11_findNine_6 rfl (lv_at hl 2 rfl) ?_
  refine lv_iadd hx hb dX11_findNine_7 ?_
  obtain ⟨b_1, h⟩ := ift h
  obtain ⟨M_2, e_3, h⟩ := olt h
  refine r_iast C hS rfl rfl b_1 e_3 dX11_findNine_8 (fun H locs hS => ?_)
  refine lv_aload_n hx hb dX11_findNine_9 rfl (lv_at hl 0 rfl) ?_
  refine r_gR C hS fl_X11_118 rfl rfl rfl dX11_findNine_10 ?_
  refine lv_iconst (v := 1) hx hb dX11_findNine_13 (by decide) ?_
  refine lv_iload_n hx hb dX11_findNine_14 rfl (lv_at hl 1 rfl) ?_
  refine lv_iload_n hx hb dX11_findNine_15 rfl (lv_at hl 2 rfl) ?_
  refine lv_isub hx hb dX11_findNine_16 ?_
  refine lv_iload_n hx hb dX11_findNine_17 rfl (lv_at hl 3 rfl) ?_
  refine lv_isub hx hb dX11_findNine_18 ?_
  obtain ⟨b_4, h⟩ := ift h
  obtain ⟨M_5, e_6, h⟩ := olt h
  refine r_iast C hS rfl rfl b_4 e_6 dX11_findNine_19 (fun H locs hS => ?_)
  refine lv_aload_n hx hb dX11_findNine_20 rfl (lv_at hl 0 rfl) ?_
  refine r_gR C hS fl_X11_118 rfl rfl rfl dX11_findNine_21 ?_
  refine lv_iconst (v := 2) hx hb dX11_findNine_24 (by decide) ?_
  refine lv_iload_n hx hb dX11_findNine_25 rfl (lv_at hl 1 rfl) ?_
  refine lv_iload_n hx hb dX11_findNine_26 rfl (lv_at hl 3 rfl) ?_
  refine lv_iadd hx hb dX11_findNine_27 ?_
  obtain ⟨b_7, h⟩ := ift h
  obtain ⟨M_8, e_9, h⟩ := olt h
  refine r_iast C hS rfl rfl b_7 e_9 dX11_findNine_28 (fun H locs hS => ?_)
  refine lv_aload_n hx hb dX11_findNine_29 rfl (lv_at hl 0 rfl) ?_
  refine r_gR C hS fl_X11_118 rfl rfl rfl dX11_findNine_30 ?_
  refine lv_iconst (v := 3) hx hb dX11_findNine_33 (by decide) ?_
  refine lv_iload_n hx hb dX11_findNine_34 rfl (lv_at hl 1 rfl) ?_
  refine lv_iload_n hx hb dX11_findNine_35 rfl (lv_at hl 2 rfl) ?_
  refine lv_isub hx hb dX11_findNine_36 ?_
  refine lv_iload_n hx hb dX11_findNine_37 rfl (lv_at hl 3 rfl) ?_
  refine lv_iadd hx hb dX11_findNine_38 ?_
  obtain ⟨b_10, h⟩ := ift h
  obtain ⟨M_11, e_12, h⟩ := olt h
  refine r_iast C hS rfl rfl b_10 e_12 dX11_findNine_39 (fun H locs hS => ?_)
  refine lv_aload_n hx hb dX11_findNine_40 rfl (lv_at hl 0 rfl) ?_
  refine r_gR C hS fl_X11_118 rfl rfl rfl dX11_findNine_41 ?_
  refine lv_iconst (v := 4) hx hb dX11_findNine_44 (by decide) ?_
  refine lv_iload_n hx hb dX11_findNine_45 rfl (lv_at hl 1 rfl) ?_
  obtain ⟨b_13, h⟩ := ift h
  obtain ⟨M_14, e_15, h⟩ := olt h
  refine r_iast C hS rfl rfl b_13 e_15 dX11_findNine_46 (fun H locs hS => ?_)
  refine lv_aload_n hx hb dX11_findNine_47 rfl (lv_at hl 0 rfl) ?_
  refine r_gR C hS fl_X11_118 rfl rfl rfl dX11_findNine_48 ?_
  refine lv_iconst (v := 5) hx hb dX11_findNine_51 (by decide) ?_
  refine lv_iload_n hx hb dX11_findNine_52 rfl (lv_at hl 1 rfl) ?_
  refine lv_iload_n hx hb dX11_findNine_53 rfl (lv_at hl 2 rfl) ?_
  refine lv_iadd hx hb dX11_findNine_54 ?_
  refine lv_iload_n hx hb dX11_findNine_55 rfl (lv_at hl 3 rfl) ?_
  refine lv_isub hx hb dX11_findNine_56 ?_
  obtain ⟨b_16, h⟩ := ift h
  obtain ⟨M_17, e_18, h⟩ := olt h
  refine r_iast C hS rfl rfl b_16 e_18 dX11_findNine_57 (fun H locs hS => ?_)
  refine lv_aload_n hx hb dX11_findNine_58 rfl (lv_at hl 0 rfl) ?_
  refine r_gR C hS fl_X11_118 rfl rfl rfl dX11_findNine_59 ?_
  refine lv_bipush (v := 6) hx hb dX11_findNine_62 (by decide) ?_
  refine lv_iload_n hx hb dX11_findNine_64 rfl (lv_at hl 1 rfl) ?_
  refine lv_iload_n hx hb dX11_findNine_65 rfl (lv_at hl 3 rfl) ?_
  refine lv_isub hx hb dX11_findNine_66 ?_
  obtain ⟨b_19, h⟩ := ift h
  obtain ⟨M_20, e_21, h⟩ := olt h
  refine r_iast C hS rfl rfl b_19 e_21 dX11_findNine_67 (fun H locs hS => ?_)
  refine lv_aload_n hx hb dX11_findNine_68 rfl (lv_at hl 0 rfl) ?_
  refine r_gR C hS fl_X11_118 rfl rfl rfl dX11_findNine_69 ?_
  refine lv_bipush (v := 7) hx hb dX11_findNine_72 (by decide) ?_
  refine lv_iload_n hx hb dX11_findNine_74 rfl (lv_at hl 1 rfl) ?_
  refine lv_iload_n hx hb dX11_findNine_75 rfl (lv_at hl 2 rfl) ?_
  refine lv_iadd hx hb dX11_findNine_76 ?_
  refine lv_iload_n hx hb dX11_findNine_77 rfl (lv_at hl 3 rfl) ?_
  refine lv_iadd hx hb dX11_findNine_78 ?_
  obtain ⟨b_22, h⟩ := ift h
  obtain ⟨M_23, e_24, h⟩ := olt h
  refine r_iast C hS rfl rfl b_22 e_24 dX11_findNine_79 (fun H locs hS => ?_)
  refine lv_aload_n hx hb dX11_findNine_80 rfl (lv_at hl 0 rfl) ?_
  refine r_gR C hS fl_X11_118 rfl rfl rfl dX11_findNine_81 ?_
  refine lv_bipush (v := 8) hx hb dX11_findNine_84 (by decide) ?_
  refine lv_iload_n hx hb dX11_findNine_86 rfl (lv_at hl 1 rfl) ?_
  refine lv_iload_n hx hb dX11_findNine_87 rfl (lv_at hl 2 rfl) ?_
  refine lv_isub hx hb dX11_findNine_88 ?_
  obtain ⟨b_25, h⟩ := ift h
  obtain ⟨M_26, e_27, h⟩ := olt h
  refine r_iast C hS rfl rfl b_25 e_27 dX11_findNine_89 (fun H locs hS => ?_)
  refine lv_iconst (v := 1) hx hb dX11_findNine_90 (by decide) ?_
  refine lv_istore (lv' := [(4, .int 1), (0, .ref (G.1 + 63)), (1, .int x1), (2, .int x2), (3, .int x3)]) hx hb dX11_findNine_91 hl (by decide) rfl (fun ls hl => ?_)
  refine lv_iconst (v := 0) hx hb dX11_findNine_93 (by decide) ?_
  refine lv_istore (lv' := [(5, .int 0), (4, .int 1), (0, .ref (G.1 + 63)), (1, .int x1), (2, .int x2), (3, .int x3)]) hx hb dX11_findNine_94 hl (by decide) rfl (fun ls hl => ?_)
  obtain ⟨⟨k_44, x4_41, x5_42, M_43⟩, hq_45, h⟩ := ob h
  try dsimp only at h
  refine loopW (E := (E_Mod_findNine_96 G p l e s m _ below meth c _ )) (w_Mod_findNine_B96 C  F) F _ _ hq_45 ?_ _ _ _ hS (lv_sub hl [2, 1, 0] rfl)
  by_cases ek_46 : k_44 = 1
  · replace h := ifp ek_46 h
    subst ek_46
    intro H locs ls hS hl
    refine lv_iload hx hb dX11_findNine_134 (lv_at hl 0 rfl) ?_
    exact r_zret C hS hr hlk h dX11_findNine_136
  · replace h := ifn ek_46 h
    cases h
set_option maxHeartbeats 4000000 in
set_option maxRecDepth 100000 in
theorem c_X11_sumOf (l : Launch) (G : Gl) (F : Nat) (x1 : Int32) (x2 : Int32) (x3 : Int32) (x4 : Int32) (M : zM)  (q : Int32 × zM) (h : Mod_sumOf F x1 x2 x3 x4 M = some q) : Met l yX11_sumOf (wsM yX11_sumOf cX11_sumOf 5 (some .int)) (rmM 1 23) (Pre G M [.ref (G.1 + 63), .int x1, .int x2, .int x3, .int x4]) (PoI G q) 0 0 (gA G) := by
  refine r_met (own := RX11) rfl (by decide) (Nat.le_of_ble_eq_true rfl) ?_
  intro p e s m below meth c ls C hr hlk hS hl
  have hl : lv_has ls 5 [(0, .ref (G.1 + 63)), (1, .int x1), (2, .int x2), (3, .int x3), (4, .int x4)] := hl
  obtain ⟨hx, hb, -⟩ := id C
  unfold Mod_sumOf at h
  refine lv_aload_n hx hb dX11_sumOf_0 rfl (lv_at hl 0 rfl) ?_
  refine lv_iload_n hx hb dX11_sumOf_1 rfl (lv_at hl 1 rfl) ?_
  refine lv_aload_n hx hb dX11_sumOf_2 rfl (lv_at hl 0 rfl) ?_
  refine r_gR C hS fl_X11_118 rfl rfl rfl dX11_sumOf_3 ?_
  refine lv_iload_n hx hb dX11_sumOf_6 rfl (lv_at hl 2 rfl) ?_
  obtain ⟨b_1, h⟩ := ift h
  refine r_iald C hS rfl rfl b_1 dX11_sumOf_7 ?_
  obtain ⟨⟨r_2, M_3⟩, hq_4, h⟩ := ob h
  try dsimp only at h
  refine r_thenI hS (r_runV C hS hl.1 cv_X11_242 rfl (c_X11_lettersOf l G F x1 (M.1 98 x2.toNatClampNeg) M  _ hq_4) ⟨by decide, by decide⟩ rfl rfl (Nat.le_of_ble_eq_true rfl) ⟨Nat.zero_le _, Nat.zero_le _⟩ dX11_sumOf_8) (fun H locs hS => ?_)
  refine lv_aload_n hx hb dX11_sumOf_11 rfl (lv_at hl 0 rfl) ?_
  refine lv_iload_n hx hb dX11_sumOf_12 rfl (lv_at hl 1 rfl) ?_
  refine lv_aload_n hx hb dX11_sumOf_13 rfl (lv_at hl 0 rfl) ?_
  refine r_gR C hS fl_X11_118 rfl rfl rfl dX11_sumOf_14 ?_
  refine lv_iload_n hx hb dX11_sumOf_17 rfl (lv_at hl 3 rfl) ?_
  obtain ⟨b_5, h⟩ := ift h
  refine r_iald C hS rfl rfl b_5 dX11_sumOf_18 ?_
  obtain ⟨⟨r_6, M_7⟩, hq_8, h⟩ := ob h
  try dsimp only at h
  refine r_thenI hS (r_runV C hS hl.1 cv_X11_242 rfl (c_X11_lettersOf l G F x1 (M_3.1 98 x3.toNatClampNeg) M_3  _ hq_8) ⟨by decide, by decide⟩ rfl rfl (Nat.le_of_ble_eq_true rfl) ⟨Nat.zero_le _, Nat.zero_le _⟩ dX11_sumOf_19) (fun H locs hS => ?_)
  refine lv_iadd hx hb dX11_sumOf_22 ?_
  refine lv_aload_n hx hb dX11_sumOf_23 rfl (lv_at hl 0 rfl) ?_
  refine lv_iload_n hx hb dX11_sumOf_24 rfl (lv_at hl 1 rfl) ?_
  refine lv_aload_n hx hb dX11_sumOf_25 rfl (lv_at hl 0 rfl) ?_
  refine r_gR C hS fl_X11_118 rfl rfl rfl dX11_sumOf_26 ?_
  refine lv_iload hx hb dX11_sumOf_29 (lv_at hl 4 rfl) ?_
  obtain ⟨b_9, h⟩ := ift h
  refine r_iald C hS rfl rfl b_9 dX11_sumOf_31 ?_
  obtain ⟨⟨r_10, M_11⟩, hq_12, h⟩ := ob h
  try dsimp only at h
  refine r_thenI hS (r_runV C hS hl.1 cv_X11_242 rfl (c_X11_lettersOf l G F x1 (M_7.1 98 x4.toNatClampNeg) M_7  _ hq_12) ⟨by decide, by decide⟩ rfl rfl (Nat.le_of_ble_eq_true rfl) ⟨Nat.zero_le _, Nat.zero_le _⟩ dX11_sumOf_32) (fun H locs hS => ?_)
  refine lv_iadd hx hb dX11_sumOf_35 ?_
  exact r_iret C hS hr hlk h dX11_sumOf_36
def E_Mod_isTwice_4 (G : Gl) (p : Program) (l : Launch) (e : Env) (s : State) (m : MethodId) (args : Array Value) (below : List Frame) (meth : Method) (c : Code) (Q : State → Prop) (x1 : Int32) : Nat → (Int32 × Int32 × zM) → Prop := fun k (x2, x3, M) => match k with
  | 0 => ∀ (H : Heap) (locs : List Loc) (ls : Array Slot), St G M s H locs → lv_has ls 5 [(0, .ref (G.1 + 63)), (1, .int x1), (2, .int x2), (3, .int x3)] → W p l e (rmM 2 47) s m args below meth c H locs 0 0 Q (F0 m 4 ls [])
  | 1 => ∀ (H : Heap) (locs : List Loc) (ls : Array Slot), St G M s H locs → lv_has ls 5 [(0, .ref (G.1 + 63)), (1, .int x1), (2, .int x2)] → W p l e (rmM 2 47) s m args below meth c H locs 0 0 Q (F0 m 46 ls [])
  | _ => True
set_option maxHeartbeats 4000000 in
set_option maxRecDepth 100000 in
theorem w_Mod_isTwice_B4 {G : Gl} {p : Program} {l : Launch} {e : Env} {s : State} {m : MethodId} {args : Array Value} {below : List Frame} {meth : Method} {c : Code} {Q : State → Prop} (C : Cx G cX11_isTwice 5 RX11 p s m args c) (x1 : Int32) (F : Nat) : ∀ (σ : (Int32 × Int32 × zM)) (q : Nat × (Int32 × Int32 × zM)), Mod_isTwice_B4 F x1 σ = some q → (E_Mod_isTwice_4 G p l e s m args below meth c Q x1) q.1 q.2 → (E_Mod_isTwice_4 G p l e s m args below meth c Q x1) 0 σ := by
  intro (x2, x3, M) q h hE H locs ls hS hl
  obtain ⟨hx, hb, -⟩ := id C
  unfold Mod_isTwice_B4 at h
  try dsimp only at h
  refine lv_iload_n hx hb dX11_isTwice_4 rfl (lv_at hl 3 rfl) ?_
  refine lv_bipush (v := 9) hx hb dX11_isTwice_5 (by decide) ?_
  refine lv_icmp_ge (tgt := 46) hx hb dX11_isTwice_7 (by decide) (fun c_1 => ?_) (fun c_1 => ?_)
  · replace h := ifp c_1 h
    obtain rfl := Option.some.inj h
    exact hE _ _ _ hS (lv_sub hl [0, 1, 2] rfl)
  · replace h := ifn c_1 h
    refine lv_iload_n hx hb dX11_isTwice_10 rfl (lv_at hl 2 rfl) ?_
    refine lv_if_eq (tgt := 38) hx hb dX11_isTwice_11 (by decide) (fun c_2 => ?_) (fun c_2 => ?_)
    · replace h := ifp c_2 h
      refine lv_iconst (v := 0) hx hb dX11_isTwice_38 (by decide) ?_
      refine lv_istore_n (lv' := [(2, .int 0), (0, .ref (G.1 + 63)), (1, .int x1), (3, .int x3)]) hx hb dX11_isTwice_39 rfl hl (by decide) rfl (fun ls hl => ?_)
      obtain ⟨x3_3, e_4, h⟩ := olt h
      refine lv_iinc (v := x3_3) (lv' := [(3, .int x3_3), (2, .int 0), (0, .ref (G.1 + 63)), (1, .int x1)]) hx hb dX11_isTwice_40 hl (k := 3) rfl (by rw [e_4]; rfl) (by decide) rfl (fun ls hl => ?_)
      refine lv_goto (tgt := 4) hx hb dX11_isTwice_43 (by decide) ?_
      obtain rfl := Option.some.inj h
      exact hE _ _ _ hS (lv_sub hl [2, 3, 1, 0] rfl)
    · replace h := ifn c_2 h
      refine lv_aload_n hx hb dX11_isTwice_14 rfl (lv_at hl 0 rfl) ?_
      refine r_gR C hS fl_X11_41 rfl rfl rfl dX11_isTwice_15 ?_
      refine lv_sipush (v := 1000) hx hb dX11_isTwice_18 (by decide) ?_
      refine lv_iload_n hx hb dX11_isTwice_21 rfl (lv_at hl 1 rfl) ?_
      refine lv_imul hx hb dX11_isTwice_22 ?_
      refine lv_aload_n hx hb dX11_isTwice_23 rfl (lv_at hl 0 rfl) ?_
      refine r_gR C hS fl_X11_118 rfl rfl rfl dX11_isTwice_24 ?_
      refine lv_iload_n hx hb dX11_isTwice_27 rfl (lv_at hl 3 rfl) ?_
      obtain ⟨b_5, h⟩ := ift h
      refine r_iald C hS rfl rfl b_5 dX11_isTwice_28 ?_
      refine lv_iadd hx hb dX11_isTwice_29 ?_
      obtain ⟨b_6, h⟩ := ift h
      refine r_iald C hS rfl rfl b_6 dX11_isTwice_30 ?_
      refine lv_if_lt (tgt := 38) hx hb dX11_isTwice_31 (by decide) (fun c_7 => ?_) (fun c_7 => ?_)
      · replace h := ifp c_7 h
        refine lv_iconst (v := 0) hx hb dX11_isTwice_38 (by decide) ?_
        refine lv_istore_n (lv' := [(2, .int 0), (0, .ref (G.1 + 63)), (1, .int x1), (3, .int x3)]) hx hb dX11_isTwice_39 rfl hl (by decide) rfl (fun ls hl => ?_)
        obtain ⟨x3_8, e_9, h⟩ := olt h
        refine lv_iinc (v := x3_8) (lv' := [(3, .int x3_8), (2, .int 0), (0, .ref (G.1 + 63)), (1, .int x1)]) hx hb dX11_isTwice_40 hl (k := 3) rfl (by rw [e_9]; rfl) (by decide) rfl (fun ls hl => ?_)
        refine lv_goto (tgt := 4) hx hb dX11_isTwice_43 (by decide) ?_
        obtain rfl := Option.some.inj h
        exact hE _ _ _ hS (lv_sub hl [2, 3, 1, 0] rfl)
      · replace h := ifn c_7 h
        refine lv_iconst (v := 1) hx hb dX11_isTwice_34 (by decide) ?_
        refine lv_goto (tgt := 39) hx hb dX11_isTwice_35 (by decide) ?_
        refine lv_istore_n (lv' := [(2, .int 1), (0, .ref (G.1 + 63)), (1, .int x1), (3, .int x3)]) hx hb dX11_isTwice_39 rfl hl (by decide) rfl (fun ls hl => ?_)
        obtain ⟨x3_10, e_11, h⟩ := olt h
        refine lv_iinc (v := x3_10) (lv' := [(3, .int x3_10), (2, .int 1), (0, .ref (G.1 + 63)), (1, .int x1)]) hx hb dX11_isTwice_40 hl (k := 3) rfl (by rw [e_11]; rfl) (by decide) rfl (fun ls hl => ?_)
        refine lv_goto (tgt := 4) hx hb dX11_isTwice_43 (by decide) ?_
        obtain rfl := Option.some.inj h
        exact hE _ _ _ hS (lv_sub hl [2, 3, 1, 0] rfl)
def E_Mod_isTwice_58 (G : Gl) (p : Program) (l : Launch) (e : Env) (s : State) (m : MethodId) (args : Array Value) (below : List Frame) (meth : Method) (c : Code) (Q : State → Prop) (x1 : Int32) (x3 : Int32) : Nat → (Int32 × Int32 × zM) → Prop := fun k (x2, x4, M) => match k with
  | 0 => ∀ (H : Heap) (locs : List Loc) (ls : Array Slot), St G M s H locs → lv_has ls 5 [(0, .ref (G.1 + 63)), (1, .int x1), (2, .int x2), (3, .int x3), (4, .int x4)] → W p l e (rmM 2 47) s m args below meth c H locs 0 0 Q (F0 m 58 ls [])
  | 1 => ∀ (H : Heap) (locs : List Loc) (ls : Array Slot), St G M s H locs → lv_has ls 5 [(0, .ref (G.1 + 63)), (1, .int x1), (2, .int x2), (3, .int x3)] → W p l e (rmM 2 47) s m args below meth c H locs 0 0 Q (F0 m 125 ls [])
  | _ => True
set_option maxHeartbeats 4000000 in
set_option maxRecDepth 100000 in
theorem w_Mod_isTwice_B58 {G : Gl} {p : Program} {l : Launch} {e : Env} {s : State} {m : MethodId} {args : Array Value} {below : List Frame} {meth : Method} {c : Code} {Q : State → Prop} (C : Cx G cX11_isTwice 5 RX11 p s m args c) (x1 : Int32) (x3 : Int32) (F : Nat) : ∀ (σ : (Int32 × Int32 × zM)) (q : Nat × (Int32 × Int32 × zM)), Mod_isTwice_B58 F x1 x3 σ = some q → (E_Mod_isTwice_58 G p l e s m args below meth c Q x1 x3) q.1 q.2 → (E_Mod_isTwice_58 G p l e s m args below meth c Q x1 x3) 0 σ := by
  intro (x2, x4, M) q h hE H locs ls hS hl
  obtain ⟨hx, hb, -⟩ := id C
  unfold Mod_isTwice_B58 at h
  try dsimp only at h
  refine lv_iload hx hb dX11_isTwice_58 (lv_at hl 4 rfl) ?_
  refine lv_iconst (v := 3) hx hb dX11_isTwice_60 (by decide) ?_
  refine lv_icmp_ge (tgt := 125) hx hb dX11_isTwice_61 (by decide) (fun c_20 => ?_) (fun c_20 => ?_)
  · replace h := ifp c_20 h
    obtain rfl := Option.some.inj h
    exact hE _ _ _ hS (lv_sub hl [0, 1, 2, 3] rfl)
  · replace h := ifn c_20 h
    refine lv_iload_n hx hb dX11_isTwice_64 rfl (lv_at hl 2 rfl) ?_
    refine lv_if_eq (tgt := 117) hx hb dX11_isTwice_65 (by decide) (fun c_21 => ?_) (fun c_21 => ?_)
    · replace h := ifp c_21 h
      refine lv_iconst (v := 0) hx hb dX11_isTwice_117 (by decide) ?_
      refine lv_istore_n (lv' := [(2, .int 0), (0, .ref (G.1 + 63)), (1, .int x1), (3, .int x3), (4, .int x4)]) hx hb dX11_isTwice_118 rfl hl (by decide) rfl (fun ls hl => ?_)
      obtain ⟨x4_22, e_23, h⟩ := olt h
      refine lv_iinc (v := x4_22) (lv' := [(4, .int x4_22), (2, .int 0), (0, .ref (G.1 + 63)), (1, .int x1), (3, .int x3)]) hx hb dX11_isTwice_119 hl (k := 4) rfl (by rw [e_23]; rfl) (by decide) rfl (fun ls hl => ?_)
      refine lv_goto (tgt := 58) hx hb dX11_isTwice_122 (by decide) ?_
      obtain rfl := Option.some.inj h
      exact hE _ _ _ hS (lv_sub hl [2, 3, 1, 4, 0] rfl)
    · replace h := ifn c_21 h
      refine lv_aload_n hx hb dX11_isTwice_68 rfl (lv_at hl 0 rfl) ?_
      refine lv_iload_n hx hb dX11_isTwice_69 rfl (lv_at hl 1 rfl) ?_
      refine lv_iconst (v := 3) hx hb dX11_isTwice_70 (by decide) ?_
      refine lv_iload hx hb dX11_isTwice_71 (lv_at hl 4 rfl) ?_
      refine lv_imul hx hb dX11_isTwice_73 ?_
      refine lv_iconst (v := 3) hx hb dX11_isTwice_74 (by decide) ?_
      refine lv_iload hx hb dX11_isTwice_75 (lv_at hl 4 rfl) ?_
      refine lv_imul hx hb dX11_isTwice_77 ?_
      refine lv_iconst (v := 1) hx hb dX11_isTwice_78 (by decide) ?_
      refine lv_iadd hx hb dX11_isTwice_79 ?_
      refine lv_iconst (v := 3) hx hb dX11_isTwice_80 (by decide) ?_
      refine lv_iload hx hb dX11_isTwice_81 (lv_at hl 4 rfl) ?_
      refine lv_imul hx hb dX11_isTwice_83 ?_
      refine lv_iconst (v := 2) hx hb dX11_isTwice_84 (by decide) ?_
      refine lv_iadd hx hb dX11_isTwice_85 ?_
      obtain ⟨⟨r_24, M_25⟩, hq_26, h⟩ := ob h
      try dsimp only at h
      refine r_thenI hS (r_runV C hS hl.1 cv_X11_297 rfl (c_X11_sumOf l G F x1 (3 * x4) ((3 * x4) + 1) ((3 * x4) + 2) M  _ hq_26) ⟨by decide, by decide⟩ rfl rfl (Nat.le_of_ble_eq_true rfl) ⟨Nat.zero_le _, Nat.zero_le _⟩ dX11_isTwice_86) (fun H locs hS => ?_)
      refine lv_iload_n hx hb dX11_isTwice_89 rfl (lv_at hl 3 rfl) ?_
      refine lv_icmp_ne (tgt := 117) hx hb dX11_isTwice_90 (by decide) (fun c_27 => ?_) (fun c_27 => ?_)
      · replace h := ifn c_27 h
        refine lv_iconst (v := 0) hx hb dX11_isTwice_117 (by decide) ?_
        refine lv_istore_n (lv' := [(2, .int 0), (0, .ref (G.1 + 63)), (1, .int x1), (3, .int x3), (4, .int x4)]) hx hb dX11_isTwice_118 rfl hl (by decide) rfl (fun ls hl => ?_)
        obtain ⟨x4_28, e_29, h⟩ := olt h
        refine lv_iinc (v := x4_28) (lv' := [(4, .int x4_28), (2, .int 0), (0, .ref (G.1 + 63)), (1, .int x1), (3, .int x3)]) hx hb dX11_isTwice_119 hl (k := 4) rfl (by rw [e_29]; rfl) (by decide) rfl (fun ls hl => ?_)
        refine lv_goto (tgt := 58) hx hb dX11_isTwice_122 (by decide) ?_
        obtain rfl := Option.some.inj h
        exact hE _ _ _ hS (lv_sub hl [2, 3, 1, 4, 0] rfl)
      · replace h := ifp c_27 h
        refine lv_aload_n hx hb dX11_isTwice_93 rfl (lv_at hl 0 rfl) ?_
        refine lv_iload_n hx hb dX11_isTwice_94 rfl (lv_at hl 1 rfl) ?_
        refine lv_iload hx hb dX11_isTwice_95 (lv_at hl 4 rfl) ?_
        refine lv_iload hx hb dX11_isTwice_97 (lv_at hl 4 rfl) ?_
        refine lv_iconst (v := 3) hx hb dX11_isTwice_99 (by decide) ?_
        refine lv_iadd hx hb dX11_isTwice_100 ?_
        refine lv_iload hx hb dX11_isTwice_101 (lv_at hl 4 rfl) ?_
        refine lv_bipush (v := 6) hx hb dX11_isTwice_103 (by decide) ?_
        refine lv_iadd hx hb dX11_isTwice_105 ?_
        obtain ⟨⟨r_30, M_31⟩, hq_32, h⟩ := ob h
        try dsimp only at h
        refine r_thenI hS (r_runV C hS hl.1 cv_X11_297 rfl (c_X11_sumOf l G F x1 x4 (x4 + 3) (x4 + 6) M_25  _ hq_32) ⟨by decide, by decide⟩ rfl rfl (Nat.le_of_ble_eq_true rfl) ⟨Nat.zero_le _, Nat.zero_le _⟩ dX11_isTwice_106) (fun H locs hS => ?_)
        refine lv_iload_n hx hb dX11_isTwice_109 rfl (lv_at hl 3 rfl) ?_
        refine lv_icmp_ne (tgt := 117) hx hb dX11_isTwice_110 (by decide) (fun c_33 => ?_) (fun c_33 => ?_)
        · replace h := ifn c_33 h
          refine lv_iconst (v := 0) hx hb dX11_isTwice_117 (by decide) ?_
          refine lv_istore_n (lv' := [(2, .int 0), (0, .ref (G.1 + 63)), (1, .int x1), (3, .int x3), (4, .int x4)]) hx hb dX11_isTwice_118 rfl hl (by decide) rfl (fun ls hl => ?_)
          obtain ⟨x4_34, e_35, h⟩ := olt h
          refine lv_iinc (v := x4_34) (lv' := [(4, .int x4_34), (2, .int 0), (0, .ref (G.1 + 63)), (1, .int x1), (3, .int x3)]) hx hb dX11_isTwice_119 hl (k := 4) rfl (by rw [e_35]; rfl) (by decide) rfl (fun ls hl => ?_)
          refine lv_goto (tgt := 58) hx hb dX11_isTwice_122 (by decide) ?_
          obtain rfl := Option.some.inj h
          exact hE _ _ _ hS (lv_sub hl [2, 3, 1, 4, 0] rfl)
        · replace h := ifp c_33 h
          refine lv_iconst (v := 1) hx hb dX11_isTwice_113 (by decide) ?_
          refine lv_goto (tgt := 118) hx hb dX11_isTwice_114 (by decide) ?_
          refine lv_istore_n (lv' := [(2, .int 1), (0, .ref (G.1 + 63)), (1, .int x1), (3, .int x3), (4, .int x4)]) hx hb dX11_isTwice_118 rfl hl (by decide) rfl (fun ls hl => ?_)
          obtain ⟨x4_36, e_37, h⟩ := olt h
          refine lv_iinc (v := x4_36) (lv' := [(4, .int x4_36), (2, .int 1), (0, .ref (G.1 + 63)), (1, .int x1), (3, .int x3)]) hx hb dX11_isTwice_119 hl (k := 4) rfl (by rw [e_37]; rfl) (by decide) rfl (fun ls hl => ?_)
          refine lv_goto (tgt := 58) hx hb dX11_isTwice_122 (by decide) ?_
          obtain rfl := Option.some.inj h
          exact hE _ _ _ hS (lv_sub hl [2, 3, 1, 4, 0] rfl)
set_option maxHeartbeats 4000000 in
set_option maxRecDepth 100000 in
theorem c_X11_isTwice (l : Launch) (G : Gl) (F : Nat) (x1 : Int32) (M : zM)  (q : Int32 × zM) (h : Mod_isTwice F x1 M = some q) : Met l yX11_isTwice (wsM yX11_isTwice cX11_isTwice 5 (some .boolean)) (rmM 2 47) (Pre G M [.ref (G.1 + 63), .int x1]) (PoI G q) 0 0 (gA G) := by
  refine r_met (own := RX11) rfl (by decide) (Nat.le_of_ble_eq_true rfl) ?_
  intro p e s m below meth c ls C hr hlk hS hl
  have hl : lv_has ls 5 [(0, .ref (G.1 + 63)), (1, .int x1)] := hl
  obtain ⟨hx, hb, -⟩ := id C
  unfold Mod_isTwice at h
  refine lv_iconst (v := 1) hx hb dX11_isTwice_0 (by decide) ?_
  refine lv_istore_n (lv' := [(2, .int 1), (0, .ref (G.1 + 63)), (1, .int x1)]) hx hb dX11_isTwice_1 rfl hl (by decide) rfl (fun ls hl => ?_)
  refine lv_iconst (v := 0) hx hb dX11_isTwice_2 (by decide) ?_
  refine lv_istore_n (lv' := [(3, .int 0), (2, .int 1), (0, .ref (G.1 + 63)), (1, .int x1)]) hx hb dX11_isTwice_3 rfl hl (by decide) rfl (fun ls hl => ?_)
  obtain ⟨⟨k_15, x2_12, x3_13, M_14⟩, hq_16, h⟩ := ob h
  try dsimp only at h
  refine loopW (E := (E_Mod_isTwice_4 G p l e s m _ below meth c _ x1)) (w_Mod_isTwice_B4 C x1 F) F _ _ hq_16 ?_ _ _ _ hS (lv_sub hl [2, 3, 1, 0] rfl)
  by_cases ek_53 : k_15 = 1
  · replace h := ifp ek_53 h
    subst ek_53
    intro H locs ls hS hl
    refine lv_aload_n hx hb dX11_isTwice_46 rfl (lv_at hl 0 rfl) ?_
    refine lv_iload_n hx hb dX11_isTwice_47 rfl (lv_at hl 1 rfl) ?_
    refine lv_iconst (v := 0) hx hb dX11_isTwice_48 (by decide) ?_
    refine lv_iconst (v := 1) hx hb dX11_isTwice_49 (by decide) ?_
    refine lv_iconst (v := 2) hx hb dX11_isTwice_50 (by decide) ?_
    obtain ⟨⟨r_17, M_18⟩, hq_19, h⟩ := ob h
    try dsimp only at h
    refine r_thenI hS (r_runV C hS hl.1 cv_X11_297 rfl (c_X11_sumOf l G F x1 0 1 2 M_14  _ hq_19) ⟨by decide, by decide⟩ rfl rfl (Nat.le_of_ble_eq_true rfl) ⟨Nat.zero_le _, Nat.zero_le _⟩ dX11_isTwice_51) (fun H locs hS => ?_)
    refine lv_istore_n (lv' := [(3, .int r_17), (0, .ref (G.1 + 63)), (1, .int x1), (2, .int x2_12)]) hx hb dX11_isTwice_54 rfl hl (by decide) rfl (fun ls hl => ?_)
    refine lv_iconst (v := 0) hx hb dX11_isTwice_55 (by decide) ?_
    refine lv_istore (lv' := [(4, .int 0), (3, .int r_17), (0, .ref (G.1 + 63)), (1, .int x1), (2, .int x2_12)]) hx hb dX11_isTwice_56 hl (by decide) rfl (fun ls hl => ?_)
    obtain ⟨⟨k_41, x2_38, x4_39, M_40⟩, hq_42, h⟩ := ob h
    try dsimp only at h
    refine loopW (E := (E_Mod_isTwice_58 G p l e s m _ below meth c _ x1 r_17)) (w_Mod_isTwice_B58 C x1 r_17 F) F _ _ hq_42 ?_ _ _ _ hS (lv_sub hl [2, 3, 4, 1, 0] rfl)
    by_cases ek_52 : k_41 = 1
    · replace h := ifp ek_52 h
      subst ek_52
      intro H locs ls hS hl
      refine lv_iload_n hx hb dX11_isTwice_125 rfl (lv_at hl 2 rfl) ?_
      refine lv_if_eq (tgt := 159) hx hb dX11_isTwice_126 (by decide) (fun c_43 => ?_) (fun c_43 => ?_)
      · replace h := ifp c_43 h
        refine lv_iconst (v := 0) hx hb dX11_isTwice_159 (by decide) ?_
        exact r_zret C hS hr hlk h dX11_isTwice_160
      · replace h := ifn c_43 h
        refine lv_aload_n hx hb dX11_isTwice_129 rfl (lv_at hl 0 rfl) ?_
        refine lv_iload_n hx hb dX11_isTwice_130 rfl (lv_at hl 1 rfl) ?_
        refine lv_iconst (v := 0) hx hb dX11_isTwice_131 (by decide) ?_
        refine lv_iconst (v := 4) hx hb dX11_isTwice_132 (by decide) ?_
        refine lv_bipush (v := 8) hx hb dX11_isTwice_133 (by decide) ?_
        obtain ⟨⟨r_44, M_45⟩, hq_46, h⟩ := ob h
        try dsimp only at h
        refine r_thenI hS (r_runV C hS hl.1 cv_X11_297 rfl (c_X11_sumOf l G F x1 0 4 8 M_40  _ hq_46) ⟨by decide, by decide⟩ rfl rfl (Nat.le_of_ble_eq_true rfl) ⟨Nat.zero_le _, Nat.zero_le _⟩ dX11_isTwice_135) (fun H locs hS => ?_)
        refine lv_iload_n hx hb dX11_isTwice_138 rfl (lv_at hl 3 rfl) ?_
        refine lv_icmp_ne (tgt := 159) hx hb dX11_isTwice_139 (by decide) (fun c_47 => ?_) (fun c_47 => ?_)
        · replace h := ifn c_47 h
          refine lv_iconst (v := 0) hx hb dX11_isTwice_159 (by decide) ?_
          exact r_zret C hS hr hlk h dX11_isTwice_160
        · replace h := ifp c_47 h
          refine lv_aload_n hx hb dX11_isTwice_142 rfl (lv_at hl 0 rfl) ?_
          refine lv_iload_n hx hb dX11_isTwice_143 rfl (lv_at hl 1 rfl) ?_
          refine lv_iconst (v := 2) hx hb dX11_isTwice_144 (by decide) ?_
          refine lv_iconst (v := 4) hx hb dX11_isTwice_145 (by decide) ?_
          refine lv_bipush (v := 6) hx hb dX11_isTwice_146 (by decide) ?_
          obtain ⟨⟨r_48, M_49⟩, hq_50, h⟩ := ob h
          try dsimp only at h
          refine r_thenI hS (r_runV C hS hl.1 cv_X11_297 rfl (c_X11_sumOf l G F x1 2 4 6 M_45  _ hq_50) ⟨by decide, by decide⟩ rfl rfl (Nat.le_of_ble_eq_true rfl) ⟨Nat.zero_le _, Nat.zero_le _⟩ dX11_isTwice_148) (fun H locs hS => ?_)
          refine lv_iload_n hx hb dX11_isTwice_151 rfl (lv_at hl 3 rfl) ?_
          refine lv_icmp_ne (tgt := 159) hx hb dX11_isTwice_152 (by decide) (fun c_51 => ?_) (fun c_51 => ?_)
          · replace h := ifn c_51 h
            refine lv_iconst (v := 0) hx hb dX11_isTwice_159 (by decide) ?_
            exact r_zret C hS hr hlk h dX11_isTwice_160
          · replace h := ifp c_51 h
            refine lv_iconst (v := 1) hx hb dX11_isTwice_155 (by decide) ?_
            refine lv_goto (tgt := 160) hx hb dX11_isTwice_156 (by decide) ?_
            exact r_zret C hS hr hlk h dX11_isTwice_160
    · replace h := ifn ek_52 h
      cases h
  · replace h := ifn ek_53 h
    cases h
set_option maxHeartbeats 4000000 in
set_option maxRecDepth 100000 in
theorem c_X11_square (l : Launch) (G : Gl) (F : Nat) (x1 : Int32) (x2 : Int32) (x3 : Int32) (x4 : Int32) (M : zM)  (q : Int32 × zM) (h : Mod_square F x1 x2 x3 x4 M = some q) : Met l yX11_square (wsM yX11_square cX11_square 5 (some .int)) (rmM 3 71) (Pre G M [.ref (G.1 + 63), .int x1, .int x2, .int x3, .int x4]) (PoI G q) 0 0 (gA G) := by
  refine r_met (own := RX11) rfl (by decide) (Nat.le_of_ble_eq_true rfl) ?_
  intro p e s m below meth c ls C hr hlk hS hl
  have hl : lv_has ls 5 [(0, .ref (G.1 + 63)), (1, .int x1), (2, .int x2), (3, .int x3), (4, .int x4)] := hl
  obtain ⟨hx, hb, -⟩ := id C
  unfold Mod_square at h
  refine lv_iload_n hx hb dX11_square_0 rfl (lv_at hl 1 rfl) ?_
  obtain ⟨⟨r_1, M_2⟩, hq_3, h⟩ := ob h
  try dsimp only at h
  refine r_thenI hS (r_runS C hS hl.1 cs_X11_194 (c_X11_isTongue l G F x1 M  _ hq_3) ⟨by decide, by decide⟩ rfl rfl (Nat.le_of_ble_eq_true rfl) ⟨Nat.zero_le _, Nat.zero_le _⟩ dX11_square_1) (fun H locs hS => ?_)
  refine lv_if_ne (tgt := 11) hx hb dX11_square_4 (by decide) (fun c_4 => ?_) (fun c_4 => ?_)
  · replace h := ifn c_4 h
    refine lv_iload_n hx hb dX11_square_11 rfl (lv_at hl 2 rfl) ?_
    obtain ⟨⟨r_5, M_6⟩, hq_7, h⟩ := ob h
    try dsimp only at h
    refine r_thenI hS (r_runS C hS hl.1 cs_X11_216 (c_X11_isNumber l G F x2 M_2  _ hq_7) ⟨by decide, by decide⟩ rfl rfl (Nat.le_of_ble_eq_true rfl) ⟨Nat.zero_le _, Nat.zero_le _⟩ dX11_square_12) (fun H locs hS => ?_)
    refine lv_if_eq (tgt := 47) hx hb dX11_square_15 (by decide) (fun c_8 => ?_) (fun c_8 => ?_)
    · replace h := ifp c_8 h
      refine lv_sipush (v := (-1002)) hx hb dX11_square_47 (by decide) ?_
      exact r_iret C hS hr hlk h dX11_square_50
    · replace h := ifn c_8 h
      refine lv_iload_n hx hb dX11_square_18 rfl (lv_at hl 3 rfl) ?_
      refine lv_i2l (v := x3.toInt64) hx hb dX11_square_19 rfl ?_
      refine lv_ldc2 hx hb C.2.2.2.1 (C.2.2.2.2.1 _ tw_1277) dX11_square_20 ?_
      refine lv_ldc2 hx hb C.2.2.2.1 (C.2.2.2.2.1 _ tw_1125) dX11_square_23 ?_
      obtain ⟨⟨r_9, M_10⟩, hq_11, h⟩ := ob h
      try dsimp only at h
      refine r_thenI hS (r_runS C hS hl.1 cs_X11_123 (c_X11_in l G F x3.toInt64 (-999) 999 M_6  _ hq_11) ⟨by decide, by decide⟩ rfl rfl (Nat.le_of_ble_eq_true rfl) ⟨Nat.zero_le _, Nat.zero_le _⟩ dX11_square_26) (fun H locs hS => ?_)
      refine lv_if_eq (tgt := 47) hx hb dX11_square_29 (by decide) (fun c_12 => ?_) (fun c_12 => ?_)
      · replace h := ifp c_12 h
        refine lv_sipush (v := (-1002)) hx hb dX11_square_47 (by decide) ?_
        exact r_iret C hS hr hlk h dX11_square_50
      · replace h := ifn c_12 h
        refine lv_iload hx hb dX11_square_32 (lv_at hl 4 rfl) ?_
        refine lv_i2l (v := x4.toInt64) hx hb dX11_square_34 rfl ?_
        refine lv_ldc2 hx hb C.2.2.2.1 (C.2.2.2.2.1 _ tw_1277) dX11_square_35 ?_
        refine lv_ldc2 hx hb C.2.2.2.1 (C.2.2.2.2.1 _ tw_1125) dX11_square_38 ?_
        obtain ⟨⟨r_13, M_14⟩, hq_15, h⟩ := ob h
        try dsimp only at h
        refine r_thenI hS (r_runS C hS hl.1 cs_X11_123 (c_X11_in l G F x4.toInt64 (-999) 999 M_10  _ hq_15) ⟨by decide, by decide⟩ rfl rfl (Nat.le_of_ble_eq_true rfl) ⟨Nat.zero_le _, Nat.zero_le _⟩ dX11_square_41) (fun H locs hS => ?_)
        refine lv_if_ne (tgt := 51) hx hb dX11_square_44 (by decide) (fun c_16 => ?_) (fun c_16 => ?_)
        · replace h := ifn c_16 h
          refine lv_aload_n hx hb dX11_square_51 rfl (lv_at hl 0 rfl) ?_
          refine lv_iload_n hx hb dX11_square_52 rfl (lv_at hl 2 rfl) ?_
          refine lv_iload_n hx hb dX11_square_53 rfl (lv_at hl 3 rfl) ?_
          refine lv_iload hx hb dX11_square_54 (lv_at hl 4 rfl) ?_
          obtain ⟨⟨r_17, M_18⟩, hq_19, h⟩ := ob h
          try dsimp only at h
          refine r_thenI hS (r_runV C hS hl.1 cv_X11_303 rfl (c_X11_findNine l G F x2 x3 x4 M_14  _ hq_19) ⟨by decide, by decide⟩ rfl rfl (Nat.le_of_ble_eq_true rfl) ⟨Nat.zero_le _, Nat.zero_le _⟩ dX11_square_56) (fun H locs hS => ?_)
          refine lv_if_ne (tgt := 66) hx hb dX11_square_59 (by decide) (fun c_20 => ?_) (fun c_20 => ?_)
          · replace h := ifn c_20 h
            refine lv_aload_n hx hb dX11_square_66 rfl (lv_at hl 0 rfl) ?_
            refine lv_iload_n hx hb dX11_square_67 rfl (lv_at hl 1 rfl) ?_
            obtain ⟨⟨r_21, M_22⟩, hq_23, h⟩ := ob h
            try dsimp only at h
            refine r_thenI hS (r_runV C hS hl.1 cv_X11_306 rfl (c_X11_isTwice l G F x1 M_18  _ hq_23) ⟨by decide, by decide⟩ rfl rfl (Nat.le_of_ble_eq_true rfl) ⟨Nat.zero_le _, Nat.zero_le _⟩ dX11_square_68) (fun H locs hS => ?_)
            refine lv_if_eq (tgt := 78) hx hb dX11_square_71 (by decide) (fun c_24 => ?_) (fun c_24 => ?_)
            · replace h := ifp c_24 h
              refine lv_iconst (v := 0) hx hb dX11_square_78 (by decide) ?_
              exact r_iret C hS hr hlk h dX11_square_79
            · replace h := ifn c_24 h
              refine lv_iconst (v := 1) hx hb dX11_square_74 (by decide) ?_
              refine lv_goto (tgt := 79) hx hb dX11_square_75 (by decide) ?_
              exact r_iret C hS hr hlk h dX11_square_79
          · replace h := ifp c_20 h
            refine lv_iconst (v := (-1)) hx hb dX11_square_62 (by decide) ?_
            refine lv_goto (tgt := 79) hx hb dX11_square_63 (by decide) ?_
            exact r_iret C hS hr hlk h dX11_square_79
        · replace h := ifp c_16 h
          refine lv_sipush (v := (-1002)) hx hb dX11_square_47 (by decide) ?_
          exact r_iret C hS hr hlk h dX11_square_50
  · replace h := ifp c_4 h
    refine lv_sipush (v := (-1001)) hx hb dX11_square_7 (by decide) ?_
    exact r_iret C hS hr hlk h dX11_square_10
def E_Mod_areUnlike_4 (G : Gl) (p : Program) (l : Launch) (e : Env) (s : State) (m : MethodId) (args : Array Value) (below : List Frame) (meth : Method) (c : Code) (Q : State → Prop)  : Nat → (Int32 × Int32 × zM) → Prop := fun k (x1, x2, M) => match k with
  | 0 => ∀ (H : Heap) (locs : List Loc) (ls : Array Slot), St G M s H locs → lv_has ls 4 [(0, .ref (G.1 + 63)), (1, .int x1), (2, .int x2)] → W p l e (rmM 0 0) s m args below meth c H locs 0 0 Q (F0 m 4 ls [])
  | 1 => ∀ (H : Heap) (locs : List Loc) (ls : Array Slot), St G M s H locs → lv_has ls 4 [(1, .int x1)] → W p l e (rmM 0 0) s m args below meth c H locs 0 0 Q (F0 m 57 ls [])
  | _ => True
def E_Mod_areUnlike_14 (G : Gl) (p : Program) (l : Launch) (e : Env) (s : State) (m : MethodId) (args : Array Value) (below : List Frame) (meth : Method) (c : Code) (Q : State → Prop) (x2 : Int32) : Nat → (Int32 × Int32 × zM) → Prop := fun k (x1, x3, M) => match k with
  | 0 => ∀ (H : Heap) (locs : List Loc) (ls : Array Slot), St G M s H locs → lv_has ls 4 [(0, .ref (G.1 + 63)), (1, .int x1), (2, .int x2), (3, .int x3)] → W p l e (rmM 0 0) s m args below meth c H locs 0 0 Q (F0 m 14 ls [])
  | 1 => ∀ (H : Heap) (locs : List Loc) (ls : Array Slot), St G M s H locs → lv_has ls 4 [(0, .ref (G.1 + 63)), (1, .int x1), (2, .int x2)] → W p l e (rmM 0 0) s m args below meth c H locs 0 0 Q (F0 m 51 ls [])
  | _ => True
set_option maxHeartbeats 4000000 in
set_option maxRecDepth 100000 in
theorem w_Mod_areUnlike_B14 {G : Gl} {p : Program} {l : Launch} {e : Env} {s : State} {m : MethodId} {args : Array Value} {below : List Frame} {meth : Method} {c : Code} {Q : State → Prop} (C : Cx G cX11_areUnlike 4 RX11 p s m args c) (x2 : Int32) (F : Nat) : ∀ (σ : (Int32 × Int32 × zM)) (q : Nat × (Int32 × Int32 × zM)), Mod_areUnlike_B14 F x2 σ = some q → (E_Mod_areUnlike_14 G p l e s m args below meth c Q x2) q.1 q.2 → (E_Mod_areUnlike_14 G p l e s m args below meth c Q x2) 0 σ := by
  intro (x1, x3, M) q h hE H locs ls hS hl
  obtain ⟨hx, hb, -⟩ := id C
  unfold Mod_areUnlike_B14 at h
  try dsimp only at h
  refine lv_iload_n hx hb dX11_areUnlike_14 rfl (lv_at hl 3 rfl) ?_
  refine lv_bipush (v := 9) hx hb dX11_areUnlike_15 (by decide) ?_
  refine lv_icmp_ge (tgt := 51) hx hb dX11_areUnlike_17 (by decide) (fun c_4 => ?_) (fun c_4 => ?_)
  · replace h := ifp c_4 h
    obtain rfl := Option.some.inj h
    exact hE _ _ _ hS (lv_sub hl [0, 1, 2] rfl)
  · replace h := ifn c_4 h
    refine lv_iload_n hx hb dX11_areUnlike_20 rfl (lv_at hl 1 rfl) ?_
    refine lv_if_eq (tgt := 43) hx hb dX11_areUnlike_21 (by decide) (fun c_5 => ?_) (fun c_5 => ?_)
    · replace h := ifp c_5 h
      refine lv_iconst (v := 0) hx hb dX11_areUnlike_43 (by decide) ?_
      refine lv_istore_n (lv' := [(1, .int 0), (0, .ref (G.1 + 63)), (2, .int x2), (3, .int x3)]) hx hb dX11_areUnlike_44 rfl hl (by decide) rfl (fun ls hl => ?_)
      obtain ⟨x3_6, e_7, h⟩ := olt h
      refine lv_iinc (v := x3_6) (lv' := [(3, .int x3_6), (1, .int 0), (0, .ref (G.1 + 63)), (2, .int x2)]) hx hb dX11_areUnlike_45 hl (k := 3) rfl (by rw [e_7]; rfl) (by decide) rfl (fun ls hl => ?_)
      refine lv_goto (tgt := 14) hx hb dX11_areUnlike_48 (by decide) ?_
      obtain rfl := Option.some.inj h
      exact hE _ _ _ hS (lv_sub hl [2, 1, 3, 0] rfl)
    · replace h := ifn c_5 h
      refine lv_aload_n hx hb dX11_areUnlike_24 rfl (lv_at hl 0 rfl) ?_
      refine r_gR C hS fl_X11_118 rfl rfl rfl dX11_areUnlike_25 ?_
      refine lv_iload_n hx hb dX11_areUnlike_28 rfl (lv_at hl 2 rfl) ?_
      obtain ⟨b_8, h⟩ := ift h
      refine r_iald C hS rfl rfl b_8 dX11_areUnlike_29 ?_
      refine lv_aload_n hx hb dX11_areUnlike_30 rfl (lv_at hl 0 rfl) ?_
      refine r_gR C hS fl_X11_118 rfl rfl rfl dX11_areUnlike_31 ?_
      refine lv_iload_n hx hb dX11_areUnlike_34 rfl (lv_at hl 3 rfl) ?_
      obtain ⟨b_9, h⟩ := ift h
      refine r_iald C hS rfl rfl b_9 dX11_areUnlike_35 ?_
      refine lv_icmp_eq (tgt := 43) hx hb dX11_areUnlike_36 (by decide) (fun c_10 => ?_) (fun c_10 => ?_)
      · replace h := ifp c_10 h
        refine lv_iconst (v := 0) hx hb dX11_areUnlike_43 (by decide) ?_
        refine lv_istore_n (lv' := [(1, .int 0), (0, .ref (G.1 + 63)), (2, .int x2), (3, .int x3)]) hx hb dX11_areUnlike_44 rfl hl (by decide) rfl (fun ls hl => ?_)
        obtain ⟨x3_11, e_12, h⟩ := olt h
        refine lv_iinc (v := x3_11) (lv' := [(3, .int x3_11), (1, .int 0), (0, .ref (G.1 + 63)), (2, .int x2)]) hx hb dX11_areUnlike_45 hl (k := 3) rfl (by rw [e_12]; rfl) (by decide) rfl (fun ls hl => ?_)
        refine lv_goto (tgt := 14) hx hb dX11_areUnlike_48 (by decide) ?_
        obtain rfl := Option.some.inj h
        exact hE _ _ _ hS (lv_sub hl [2, 1, 3, 0] rfl)
      · replace h := ifn c_10 h
        refine lv_iconst (v := 1) hx hb dX11_areUnlike_39 (by decide) ?_
        refine lv_goto (tgt := 44) hx hb dX11_areUnlike_40 (by decide) ?_
        refine lv_istore_n (lv' := [(1, .int 1), (0, .ref (G.1 + 63)), (2, .int x2), (3, .int x3)]) hx hb dX11_areUnlike_44 rfl hl (by decide) rfl (fun ls hl => ?_)
        obtain ⟨x3_13, e_14, h⟩ := olt h
        refine lv_iinc (v := x3_13) (lv' := [(3, .int x3_13), (1, .int 1), (0, .ref (G.1 + 63)), (2, .int x2)]) hx hb dX11_areUnlike_45 hl (k := 3) rfl (by rw [e_14]; rfl) (by decide) rfl (fun ls hl => ?_)
        refine lv_goto (tgt := 14) hx hb dX11_areUnlike_48 (by decide) ?_
        obtain rfl := Option.some.inj h
        exact hE _ _ _ hS (lv_sub hl [2, 1, 3, 0] rfl)
set_option maxHeartbeats 4000000 in
set_option maxRecDepth 100000 in
theorem w_Mod_areUnlike_B4 {G : Gl} {p : Program} {l : Launch} {e : Env} {s : State} {m : MethodId} {args : Array Value} {below : List Frame} {meth : Method} {c : Code} {Q : State → Prop} (C : Cx G cX11_areUnlike 4 RX11 p s m args c)  (F : Nat) : ∀ (σ : (Int32 × Int32 × zM)) (q : Nat × (Int32 × Int32 × zM)), Mod_areUnlike_B4 F  σ = some q → (E_Mod_areUnlike_4 G p l e s m args below meth c Q ) q.1 q.2 → (E_Mod_areUnlike_4 G p l e s m args below meth c Q ) 0 σ := by
  intro (x1, x2, M) q h hE H locs ls hS hl
  obtain ⟨hx, hb, -⟩ := id C
  unfold Mod_areUnlike_B4 at h
  try dsimp only at h
  refine lv_iload_n hx hb dX11_areUnlike_4 rfl (lv_at hl 2 rfl) ?_
  refine lv_bipush (v := 9) hx hb dX11_areUnlike_5 (by decide) ?_
  refine lv_icmp_ge (tgt := 57) hx hb dX11_areUnlike_7 (by decide) (fun c_1 => ?_) (fun c_1 => ?_)
  · replace h := ifp c_1 h
    obtain rfl := Option.some.inj h
    exact hE _ _ _ hS (lv_sub hl [1] rfl)
  · replace h := ifn c_1 h
    refine lv_iload_n hx hb dX11_areUnlike_10 rfl (lv_at hl 2 rfl) ?_
    refine lv_iconst (v := 1) hx hb dX11_areUnlike_11 (by decide) ?_
    refine lv_iadd hx hb dX11_areUnlike_12 ?_
    obtain ⟨x3_2, e_3, h⟩ := olt h
    refine r_nI e_3 ?_
    refine lv_istore_n (lv' := [(3, .int x3_2), (0, .ref (G.1 + 63)), (1, .int x1), (2, .int x2)]) hx hb dX11_areUnlike_13 rfl hl (by decide) rfl (fun ls hl => ?_)
    obtain ⟨⟨k_18, x1_15, x3_16, M_17⟩, hq_19, h⟩ := ob h
    try dsimp only at h
    refine loopW (E := (E_Mod_areUnlike_14 G p l e s m _ below meth c _ x2)) (w_Mod_areUnlike_B14 C x2 F) F _ _ hq_19 ?_ _ _ _ hS (lv_sub hl [1, 2, 3, 0] rfl)
    by_cases ek_22 : k_18 = 1
    · replace h := ifp ek_22 h
      subst ek_22
      intro H locs ls hS hl
      obtain ⟨x2_20, e_21, h⟩ := olt h
      refine lv_iinc (v := x2_20) (lv' := [(2, .int x2_20), (0, .ref (G.1 + 63)), (1, .int x1_15)]) hx hb dX11_areUnlike_51 hl (k := 2) rfl (by rw [e_21]; rfl) (by decide) rfl (fun ls hl => ?_)
      refine lv_goto (tgt := 4) hx hb dX11_areUnlike_54 (by decide) ?_
      obtain rfl := Option.some.inj h
      exact hE _ _ _ hS (lv_sub hl [1, 2, 0] rfl)
    · replace h := ifn ek_22 h
      cases h
set_option maxHeartbeats 4000000 in
set_option maxRecDepth 100000 in
theorem c_X11_areUnlike (l : Launch) (G : Gl) (F : Nat)  (M : zM)  (q : Int32 × zM) (h : Mod_areUnlike F  M = some q) : Met l yX11_areUnlike (wsM yX11_areUnlike cX11_areUnlike 4 (some .boolean)) (rmM 0 0) (Pre G M [.ref (G.1 + 63)]) (PoI G q) 0 0 (gA G) := by
  refine r_met (own := RX11) rfl (by decide) (Nat.le_of_ble_eq_true rfl) ?_
  intro p e s m below meth c ls C hr hlk hS hl
  have hl : lv_has ls 4 [(0, .ref (G.1 + 63))] := hl
  obtain ⟨hx, hb, -⟩ := id C
  unfold Mod_areUnlike at h
  refine lv_iconst (v := 1) hx hb dX11_areUnlike_0 (by decide) ?_
  refine lv_istore_n (lv' := [(1, .int 1), (0, .ref (G.1 + 63))]) hx hb dX11_areUnlike_1 rfl hl (by decide) rfl (fun ls hl => ?_)
  refine lv_iconst (v := 0) hx hb dX11_areUnlike_2 (by decide) ?_
  refine lv_istore_n (lv' := [(2, .int 0), (1, .int 1), (0, .ref (G.1 + 63))]) hx hb dX11_areUnlike_3 rfl hl (by decide) rfl (fun ls hl => ?_)
  obtain ⟨⟨k_26, x1_23, x2_24, M_25⟩, hq_27, h⟩ := ob h
  try dsimp only at h
  refine loopW (E := (E_Mod_areUnlike_4 G p l e s m _ below meth c _ )) (w_Mod_areUnlike_B4 C  F) F _ _ hq_27 ?_ _ _ _ hS (lv_sub hl [2, 1, 0] rfl)
  by_cases ek_28 : k_26 = 1
  · replace h := ifp ek_28 h
    subst ek_28
    intro H locs ls hS hl
    refine lv_iload_n hx hb dX11_areUnlike_57 rfl (lv_at hl 0 rfl) ?_
    exact r_zret C hS hr hlk h dX11_areUnlike_58
  · replace h := ifn ek_28 h
    cases h
def E_Mod_squares_20 (G : Gl) (p : Program) (l : Launch) (e : Env) (s : State) (m : MethodId) (args : Array Value) (below : List Frame) (meth : Method) (c : Code) (Q : State → Prop) (x1 : Int32) (x2 : Int32) : Nat → (Int32 × Int32 × zM) → Prop := fun k (x3, x4, M) => match k with
  | 0 => ∀ (H : Heap) (locs : List Loc) (ls : Array Slot), St G M s H locs → lv_has ls 5 [(0, .ref (G.1 + 63)), (1, .int x1), (2, .int x2), (3, .int x3)] → W p l e (rmM 3 71) s m args below meth c H locs 0 0 Q (F0 m 20 ls [])
  | 1 => ∀ (H : Heap) (locs : List Loc) (ls : Array Slot), St G M s H locs → lv_has ls 5 [(3, .int x3), (4, .int x4)] → W p l e (rmM 3 71) s m args below meth c H locs 0 0 Q (F0 m 62 ls [])
  | 2 => ∀ (H : Heap) (locs : List Loc) (ls : Array Slot), St G M s H locs → lv_has ls 5 [] → W p l e (rmM 3 71) s m args below meth c H locs 0 0 Q (F0 m 82 ls [])
  | _ => True
def E_Mod_squares_29 (G : Gl) (p : Program) (l : Launch) (e : Env) (s : State) (m : MethodId) (args : Array Value) (below : List Frame) (meth : Method) (c : Code) (Q : State → Prop) (x1 : Int32) (x2 : Int32) (x3 : Int32) : Nat → (Int32 × zM) → Prop := fun k (x4, M) => match k with
  | 0 => ∀ (H : Heap) (locs : List Loc) (ls : Array Slot), St G M s H locs → lv_has ls 5 [(0, .ref (G.1 + 63)), (1, .int x1), (2, .int x2), (3, .int x3), (4, .int x4)] → W p l e (rmM 3 71) s m args below meth c H locs 0 0 Q (F0 m 29 ls [])
  | 1 => ∀ (H : Heap) (locs : List Loc) (ls : Array Slot), St G M s H locs → lv_has ls 5 [(3, .int x3), (4, .int x4)] → W p l e (rmM 3 71) s m args below meth c H locs 0 0 Q (F0 m 62 ls [])
  | 2 => ∀ (H : Heap) (locs : List Loc) (ls : Array Slot), St G M s H locs → lv_has ls 5 [(0, .ref (G.1 + 63)), (1, .int x1), (2, .int x2), (3, .int x3)] → W p l e (rmM 3 71) s m args below meth c H locs 0 0 Q (F0 m 76 ls [])
  | _ => True
set_option maxHeartbeats 4000000 in
set_option maxRecDepth 100000 in
theorem w_Mod_squares_B29 {G : Gl} {p : Program} {l : Launch} {e : Env} {s : State} {m : MethodId} {args : Array Value} {below : List Frame} {meth : Method} {c : Code} {Q : State → Prop} (C : Cx G cX11_squares 5 RX11 p s m args c) (x1 : Int32) (x2 : Int32) (x3 : Int32) (F : Nat) : ∀ (σ : (Int32 × zM)) (q : Nat × (Int32 × zM)), Mod_squares_B29 F x1 x2 x3 σ = some q → (E_Mod_squares_29 G p l e s m args below meth c Q x1 x2 x3) q.1 q.2 → (E_Mod_squares_29 G p l e s m args below meth c Q x1 x2 x3) 0 σ := by
  intro (x4, M) q h hE H locs ls hS hl
  obtain ⟨hx, hb, -⟩ := id C
  unfold Mod_squares_B29 at h
  try dsimp only at h
  refine lv_iload hx hb dX11_squares_29 (lv_at hl 4 rfl) ?_
  refine lv_bipush (v := 60) hx hb dX11_squares_31 (by decide) ?_
  refine lv_icmp_gt (tgt := 76) hx hb dX11_squares_33 (by decide) (fun c_10 => ?_) (fun c_10 => ?_)
  · replace h := ifp c_10 h
    obtain rfl := Option.some.inj h
    exact hE _ _ _ hS (lv_sub hl [0, 1, 2, 3] rfl)
  · replace h := ifn c_10 h
    refine lv_aload_n hx hb dX11_squares_36 rfl (lv_at hl 0 rfl) ?_
    refine lv_iload_n hx hb dX11_squares_37 rfl (lv_at hl 2 rfl) ?_
    refine lv_iload_n hx hb dX11_squares_38 rfl (lv_at hl 3 rfl) ?_
    refine lv_iload hx hb dX11_squares_39 (lv_at hl 4 rfl) ?_
    obtain ⟨⟨r_11, M_12⟩, hq_13, h⟩ := ob h
    try dsimp only at h
    refine r_thenI hS (r_runV C hS hl.1 cv_X11_303 rfl (c_X11_findNine l G F x2 x3 x4 M  _ hq_13) ⟨by decide, by decide⟩ rfl rfl (Nat.le_of_ble_eq_true rfl) ⟨Nat.zero_le _, Nat.zero_le _⟩ dX11_squares_41) (fun H locs hS => ?_)
    refine lv_if_eq (tgt := 70) hx hb dX11_squares_44 (by decide) (fun c_14 => ?_) (fun c_14 => ?_)
    · replace h := ifp c_14 h
      obtain ⟨x4_15, e_16, h⟩ := olt h
      refine lv_iinc (v := x4_15) (lv' := [(4, .int x4_15), (0, .ref (G.1 + 63)), (1, .int x1), (2, .int x2), (3, .int x3)]) hx hb dX11_squares_70 hl (k := 4) rfl (by rw [e_16]; rfl) (by decide) rfl (fun ls hl => ?_)
      refine lv_goto (tgt := 29) hx hb dX11_squares_73 (by decide) ?_
      obtain rfl := Option.some.inj h
      exact hE _ _ _ hS (lv_sub hl [1, 2, 3, 4, 0] rfl)
    · replace h := ifn c_14 h
      refine lv_aload_n hx hb dX11_squares_47 rfl (lv_at hl 0 rfl) ?_
      obtain ⟨⟨r_17, M_18⟩, hq_19, h⟩ := ob h
      try dsimp only at h
      refine r_thenI hS (r_runV C hS hl.1 cv_X11_309 rfl (c_X11_areUnlike l G F  M_12  _ hq_19) ⟨by decide, by decide⟩ rfl rfl (Nat.le_of_ble_eq_true rfl) ⟨Nat.zero_le _, Nat.zero_le _⟩ dX11_squares_48) (fun H locs hS => ?_)
      refine lv_if_eq (tgt := 70) hx hb dX11_squares_51 (by decide) (fun c_20 => ?_) (fun c_20 => ?_)
      · replace h := ifp c_20 h
        obtain ⟨x4_21, e_22, h⟩ := olt h
        refine lv_iinc (v := x4_21) (lv' := [(4, .int x4_21), (0, .ref (G.1 + 63)), (1, .int x1), (2, .int x2), (3, .int x3)]) hx hb dX11_squares_70 hl (k := 4) rfl (by rw [e_22]; rfl) (by decide) rfl (fun ls hl => ?_)
        refine lv_goto (tgt := 29) hx hb dX11_squares_73 (by decide) ?_
        obtain rfl := Option.some.inj h
        exact hE _ _ _ hS (lv_sub hl [1, 2, 3, 4, 0] rfl)
      · replace h := ifn c_20 h
        refine lv_aload_n hx hb dX11_squares_54 rfl (lv_at hl 0 rfl) ?_
        refine lv_iload_n hx hb dX11_squares_55 rfl (lv_at hl 1 rfl) ?_
        obtain ⟨⟨r_23, M_24⟩, hq_25, h⟩ := ob h
        try dsimp only at h
        refine r_thenI hS (r_runV C hS hl.1 cv_X11_306 rfl (c_X11_isTwice l G F x1 M_18  _ hq_25) ⟨by decide, by decide⟩ rfl rfl (Nat.le_of_ble_eq_true rfl) ⟨Nat.zero_le _, Nat.zero_le _⟩ dX11_squares_56) (fun H locs hS => ?_)
        refine lv_if_eq (tgt := 70) hx hb dX11_squares_59 (by decide) (fun c_26 => ?_) (fun c_26 => ?_)
        · replace h := ifp c_26 h
          obtain ⟨x4_27, e_28, h⟩ := olt h
          refine lv_iinc (v := x4_27) (lv' := [(4, .int x4_27), (0, .ref (G.1 + 63)), (1, .int x1), (2, .int x2), (3, .int x3)]) hx hb dX11_squares_70 hl (k := 4) rfl (by rw [e_28]; rfl) (by decide) rfl (fun ls hl => ?_)
          refine lv_goto (tgt := 29) hx hb dX11_squares_73 (by decide) ?_
          obtain rfl := Option.some.inj h
          exact hE _ _ _ hS (lv_sub hl [1, 2, 3, 4, 0] rfl)
        · replace h := ifn c_26 h
          obtain rfl := Option.some.inj h
          exact hE _ _ _ hS (lv_sub hl [3, 4] rfl)
set_option maxHeartbeats 4000000 in
set_option maxRecDepth 100000 in
theorem w_Mod_squares_B20 {G : Gl} {p : Program} {l : Launch} {e : Env} {s : State} {m : MethodId} {args : Array Value} {below : List Frame} {meth : Method} {c : Code} {Q : State → Prop} (C : Cx G cX11_squares 5 RX11 p s m args c) (x1 : Int32) (x2 : Int32) (F : Nat) : ∀ (σ : (Int32 × Int32 × zM)) (q : Nat × (Int32 × Int32 × zM)), Mod_squares_B20 F x1 x2 σ = some q → (E_Mod_squares_20 G p l e s m args below meth c Q x1 x2) q.1 q.2 → (E_Mod_squares_20 G p l e s m args below meth c Q x1 x2) 0 σ := by
  intro (x3, x4, M) q h hE H locs ls hS hl
  obtain ⟨hx, hb, -⟩ := id C
  unfold Mod_squares_B20 at h
  try dsimp only at h
  refine lv_iload_n hx hb dX11_squares_20 rfl (lv_at hl 3 rfl) ?_
  refine lv_bipush (v := 60) hx hb dX11_squares_21 (by decide) ?_
  refine lv_icmp_gt (tgt := 82) hx hb dX11_squares_23 (by decide) (fun c_9 => ?_) (fun c_9 => ?_)
  · replace h := ifp c_9 h
    obtain rfl := Option.some.inj h
    exact hE _ _ _ hS (lv_sub hl [] rfl)
  · replace h := ifn c_9 h
    refine lv_iconst (v := 1) hx hb dX11_squares_26 (by decide) ?_
    refine lv_istore (lv' := [(4, .int 1), (0, .ref (G.1 + 63)), (1, .int x1), (2, .int x2), (3, .int x3)]) hx hb dX11_squares_27 hl (by decide) rfl (fun ls hl => ?_)
    obtain ⟨⟨k_31, x4_29, M_30⟩, hq_32, h⟩ := ob h
    try dsimp only at h
    refine loopW (E := (E_Mod_squares_29 G p l e s m _ below meth c _ x1 x2 x3)) (w_Mod_squares_B29 C x1 x2 x3 F) F _ _ hq_32 ?_ _ _ _ hS (lv_sub hl [1, 2, 3, 4, 0] rfl)
    by_cases ek_36 : k_31 = 1
    · replace h := ifp ek_36 h
      subst ek_36
      intro H locs ls hS hl
      obtain rfl := Option.some.inj h
      exact hE _ _ _ hS (lv_sub hl [0, 1] rfl)
    · replace h := ifn ek_36 h
      by_cases ek_35 : k_31 = 2
      · replace h := ifp ek_35 h
        subst ek_35
        intro H locs ls hS hl
        obtain ⟨x3_33, e_34, h⟩ := olt h
        refine lv_iinc (v := x3_33) (lv' := [(3, .int x3_33), (0, .ref (G.1 + 63)), (1, .int x1), (2, .int x2)]) hx hb dX11_squares_76 hl (k := 3) rfl (by rw [e_34]; rfl) (by decide) rfl (fun ls hl => ?_)
        refine lv_goto (tgt := 20) hx hb dX11_squares_79 (by decide) ?_
        obtain rfl := Option.some.inj h
        exact hE _ _ _ hS (lv_sub hl [1, 2, 3, 0] rfl)
      · replace h := ifn ek_35 h
        cases h
set_option maxHeartbeats 4000000 in
set_option maxRecDepth 100000 in
theorem c_X11_squares (l : Launch) (G : Gl) (F : Nat) (x1 : Int32) (x2 : Int32) (M : zM)  (q : Int32 × zM) (h : Mod_squares F x1 x2 M = some q) : Met l yX11_squares (wsM yX11_squares cX11_squares 5 (some .int)) (rmM 3 71) (Pre G M [.ref (G.1 + 63), .int x1, .int x2]) (PoI G q) 0 0 (gA G) := by
  refine r_met (own := RX11) rfl (by decide) (Nat.le_of_ble_eq_true rfl) ?_
  intro p e s m below meth c ls C hr hlk hS hl
  have hl : lv_has ls 5 [(0, .ref (G.1 + 63)), (1, .int x1), (2, .int x2)] := hl
  obtain ⟨hx, hb, -⟩ := id C
  unfold Mod_squares at h
  refine lv_iload_n hx hb dX11_squares_0 rfl (lv_at hl 1 rfl) ?_
  obtain ⟨⟨r_1, M_2⟩, hq_3, h⟩ := ob h
  try dsimp only at h
  refine r_thenI hS (r_runS C hS hl.1 cs_X11_194 (c_X11_isTongue l G F x1 M  _ hq_3) ⟨by decide, by decide⟩ rfl rfl (Nat.le_of_ble_eq_true rfl) ⟨Nat.zero_le _, Nat.zero_le _⟩ dX11_squares_1) (fun H locs hS => ?_)
  refine lv_if_eq (tgt := 14) hx hb dX11_squares_4 (by decide) (fun c_4 => ?_) (fun c_4 => ?_)
  · replace h := ifp c_4 h
    refine lv_sipush (v := (-1001)) hx hb dX11_squares_14 (by decide) ?_
    exact r_iret C hS hr hlk h dX11_squares_17
  · replace h := ifn c_4 h
    refine lv_iload_n hx hb dX11_squares_7 rfl (lv_at hl 2 rfl) ?_
    obtain ⟨⟨r_5, M_6⟩, hq_7, h⟩ := ob h
    try dsimp only at h
    refine r_thenI hS (r_runS C hS hl.1 cs_X11_216 (c_X11_isNumber l G F x2 M_2  _ hq_7) ⟨by decide, by decide⟩ rfl rfl (Nat.le_of_ble_eq_true rfl) ⟨Nat.zero_le _, Nat.zero_le _⟩ dX11_squares_8) (fun H locs hS => ?_)
    refine lv_if_ne (tgt := 18) hx hb dX11_squares_11 (by decide) (fun c_8 => ?_) (fun c_8 => ?_)
    · replace h := ifn c_8 h
      refine lv_iconst (v := 1) hx hb dX11_squares_18 (by decide) ?_
      refine lv_istore_n (lv' := [(3, .int 1), (0, .ref (G.1 + 63)), (1, .int x1), (2, .int x2)]) hx hb dX11_squares_19 rfl hl (by decide) rfl (fun ls hl => ?_)
      obtain ⟨⟨k_40, x3_37, x4_38, M_39⟩, hq_41, h⟩ := ob h
      try dsimp only at h
      refine loopW (E := (E_Mod_squares_20 G p l e s m _ below meth c _ x1 x2)) (w_Mod_squares_B20 C x1 x2 F) F _ _ hq_41 ?_ _ _ _ hS (lv_sub hl [1, 2, 3, 0] rfl)
      by_cases ek_43 : k_40 = 1
      · replace h := ifp ek_43 h
        subst ek_43
        intro H locs ls hS hl
        refine lv_bipush (v := 100) hx hb dX11_squares_62 (by decide) ?_
        refine lv_iload_n hx hb dX11_squares_64 rfl (lv_at hl 0 rfl) ?_
        refine lv_imul hx hb dX11_squares_65 ?_
        refine lv_iload hx hb dX11_squares_66 (lv_at hl 1 rfl) ?_
        refine lv_iadd hx hb dX11_squares_68 ?_
        exact r_iret C hS hr hlk h dX11_squares_69
      · replace h := ifn ek_43 h
        by_cases ek_42 : k_40 = 2
        · replace h := ifp ek_42 h
          subst ek_42
          intro H locs ls hS hl
          refine lv_iconst (v := (-1)) hx hb dX11_squares_82 (by decide) ?_
          exact r_iret C hS hr hlk h dX11_squares_83
        · replace h := ifn ek_42 h
          cases h
    · replace h := ifp c_8 h
      refine lv_sipush (v := (-1001)) hx hb dX11_squares_14 (by decide) ?_
      exact r_iret C hS hr hlk h dX11_squares_17

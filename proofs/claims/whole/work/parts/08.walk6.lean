def E_Mod_usesIn_15 (G : Gl) (p : Program) (l : Launch) (e : Env) (s : State) (m : MethodId) (args : Array Value) (below : List Frame) (meth : Method) (c : Code) (Q : State → Prop) (x3 : Int32) (x4 : Int32) : Nat → (Int32 × Int32 × zM) → Prop := fun k (x5, x6, M) => match k with
  | 0 => ∀ (H : Heap) (locs : List Loc) (ls : Array Slot), St G M s H locs → lv_has ls 7 [(0, .ref (G.1 + 63)), (3, .int x3), (4, .int x4), (5, .int x5), (6, .int x6)] → W p l e (rmM 1 22) s m args below meth c H locs 0 0 Q (F0 m 15 ls [])
  | 1 => ∀ (H : Heap) (locs : List Loc) (ls : Array Slot), St G M s H locs → lv_has ls 7 [(5, .int x5)] → W p l e (rmM 1 22) s m args below meth c H locs 0 0 Q (F0 m 58 ls [])
  | _ => True
set_option maxHeartbeats 4000000 in
set_option maxRecDepth 100000 in
theorem w_Mod_usesIn_B15 {G : Gl} {p : Program} {l : Launch} {e : Env} {s : State} {m : MethodId} {args : Array Value} {below : List Frame} {meth : Method} {c : Code} {Q : State → Prop} (C : Cx G cX11_usesIn 7 RX11 p s m args c) (x3 : Int32) (x4 : Int32) (F : Nat) : ∀ (σ : (Int32 × Int32 × zM)) (q : Nat × (Int32 × Int32 × zM)), Mod_usesIn_B15 F x3 x4 σ = some q → (E_Mod_usesIn_15 G p l e s m args below meth c Q x3 x4) q.1 q.2 → (E_Mod_usesIn_15 G p l e s m args below meth c Q x3 x4) 0 σ := by
  intro (x5, x6, M) q h hE H locs ls hS hl
  obtain ⟨hx, hb, -⟩ := id C
  unfold Mod_usesIn_B15 at h
  try dsimp only at h
  refine lv_iload hx hb dX11_usesIn_15 (lv_at hl 4 rfl) ?_
  refine lv_aload_n hx hb dX11_usesIn_17 rfl (lv_at hl 0 rfl) ?_
  refine r_gR C hS fl_X11_41 rfl rfl rfl dX11_usesIn_18 ?_
  refine lv_iload hx hb dX11_usesIn_21 (lv_at hl 2 rfl) ?_
  obtain ⟨b_3, h⟩ := ift h
  refine r_iald C hS rfl rfl b_3 dX11_usesIn_23 ?_
  refine lv_icmp_ge (tgt := 58) hx hb dX11_usesIn_24 (by decide) (fun c_4 => ?_) (fun c_4 => ?_)
  · replace h := ifp c_4 h
    obtain rfl := Option.some.inj h
    exact hE _ _ _ hS (lv_sub hl [3] rfl)
  · replace h := ifn c_4 h
    refine lv_iload hx hb dX11_usesIn_27 (lv_at hl 3 rfl) ?_
    refine lv_aload_n hx hb dX11_usesIn_29 rfl (lv_at hl 0 rfl) ?_
    refine lv_iload hx hb dX11_usesIn_30 (lv_at hl 2 rfl) ?_
    refine lv_iload hx hb dX11_usesIn_32 (lv_at hl 4 rfl) ?_
    obtain ⟨⟨r_5, M_6⟩, hq_7, h⟩ := ob h
    try dsimp only at h
    refine r_thenI hS (r_runV C hS hl.1 cv_X11_222 rfl (c_X11_byteOf l G F x4 x6 M  _ hq_7) ⟨by decide, by decide⟩ rfl rfl (Nat.le_of_ble_eq_true rfl) ⟨Nat.zero_le _, Nat.zero_le _⟩ dX11_usesIn_34) (fun H locs hS => ?_)
    refine lv_iload_n hx hb dX11_usesIn_37 rfl (lv_at hl 1 rfl) ?_
    refine lv_bipush (v := 97) hx hb dX11_usesIn_38 (by decide) ?_
    refine lv_iadd hx hb dX11_usesIn_40 ?_
    refine lv_icmp_ne (tgt := 48) hx hb dX11_usesIn_41 (by decide) (fun c_8 => ?_) (fun c_8 => ?_)
    · replace h := ifn c_8 h
      refine lv_iconst (v := 0) hx hb dX11_usesIn_48 (by decide) ?_
      refine lv_iadd hx hb dX11_usesIn_49 ?_
      obtain ⟨x5_9, e_10, h⟩ := olt h
      refine r_nI e_10 ?_
      refine lv_istore (lv' := [(5, .int x5_9), (0, .ref (G.1 + 63)), (3, .int x3), (4, .int x4), (6, .int x6)]) hx hb dX11_usesIn_50 hl (by decide) rfl (fun ls hl => ?_)
      obtain ⟨x6_11, e_12, h⟩ := olt h
      refine lv_iinc (v := x6_11) (lv' := [(6, .int x6_11), (5, .int x5_9), (0, .ref (G.1 + 63)), (3, .int x3), (4, .int x4)]) hx hb dX11_usesIn_52 hl (k := 4) rfl (by rw [e_12]; rfl) (by decide) rfl (fun ls hl => ?_)
      refine lv_goto (tgt := 15) hx hb dX11_usesIn_55 (by decide) ?_
      obtain rfl := Option.some.inj h
      exact hE _ _ _ hS (lv_sub hl [2, 3, 4, 1, 0] rfl)
    · replace h := ifp c_8 h
      refine lv_iconst (v := 1) hx hb dX11_usesIn_44 (by decide) ?_
      refine lv_goto (tgt := 49) hx hb dX11_usesIn_45 (by decide) ?_
      refine lv_iadd hx hb dX11_usesIn_49 ?_
      obtain ⟨x5_13, e_14, h⟩ := olt h
      refine r_nI e_14 ?_
      refine lv_istore (lv' := [(5, .int x5_13), (0, .ref (G.1 + 63)), (3, .int x3), (4, .int x4), (6, .int x6)]) hx hb dX11_usesIn_50 hl (by decide) rfl (fun ls hl => ?_)
      obtain ⟨x6_15, e_16, h⟩ := olt h
      refine lv_iinc (v := x6_15) (lv' := [(6, .int x6_15), (5, .int x5_13), (0, .ref (G.1 + 63)), (3, .int x3), (4, .int x4)]) hx hb dX11_usesIn_52 hl (k := 4) rfl (by rw [e_16]; rfl) (by decide) rfl (fun ls hl => ?_)
      refine lv_goto (tgt := 15) hx hb dX11_usesIn_55 (by decide) ?_
      obtain rfl := Option.some.inj h
      exact hE _ _ _ hS (lv_sub hl [2, 3, 4, 1, 0] rfl)
set_option maxHeartbeats 4000000 in
set_option maxRecDepth 100000 in
theorem c_X11_usesIn (l : Launch) (G : Gl) (F : Nat) (x1 : Int32) (x2 : Int32) (x3 : Int32) (M : zM)  (q : Int32 × zM) (h : Mod_usesIn F x1 x2 x3 M = some q) : Met l yX11_usesIn (wsM yX11_usesIn cX11_usesIn 7 (some .int)) (rmM 1 22) (Pre G M [.ref (G.1 + 63), .int x1, .int x2, .int x3]) (PoI G q) 0 0 (gA G) := by
  refine r_met (own := RX11) rfl (by decide) (Nat.le_of_ble_eq_true rfl) ?_
  intro p e s m below meth c ls C hr hlk hS hl
  have hl : lv_has ls 7 [(0, .ref (G.1 + 63)), (1, .int x1), (2, .int x2), (3, .int x3)] := hl
  obtain ⟨hx, hb, -⟩ := id C
  unfold Mod_usesIn at h
  refine lv_sipush (v := 1000) hx hb dX11_usesIn_0 (by decide) ?_
  refine lv_iload_n hx hb dX11_usesIn_3 rfl (lv_at hl 1 rfl) ?_
  refine lv_imul hx hb dX11_usesIn_4 ?_
  refine lv_iload_n hx hb dX11_usesIn_5 rfl (lv_at hl 2 rfl) ?_
  refine lv_iadd hx hb dX11_usesIn_6 ?_
  obtain ⟨x4_1, e_2, h⟩ := olt h
  refine r_nI e_2 ?_
  refine lv_istore (lv' := [(4, .int x4_1), (0, .ref (G.1 + 63)), (1, .int x1), (2, .int x2), (3, .int x3)]) hx hb dX11_usesIn_7 hl (by decide) rfl (fun ls hl => ?_)
  refine lv_iconst (v := 0) hx hb dX11_usesIn_9 (by decide) ?_
  refine lv_istore (lv' := [(5, .int 0), (4, .int x4_1), (0, .ref (G.1 + 63)), (1, .int x1), (2, .int x2), (3, .int x3)]) hx hb dX11_usesIn_10 hl (by decide) rfl (fun ls hl => ?_)
  refine lv_iconst (v := 0) hx hb dX11_usesIn_12 (by decide) ?_
  refine lv_istore (lv' := [(6, .int 0), (5, .int 0), (4, .int x4_1), (0, .ref (G.1 + 63)), (1, .int x1), (2, .int x2), (3, .int x3)]) hx hb dX11_usesIn_13 hl (by decide) rfl (fun ls hl => ?_)
  obtain ⟨⟨k_20, x5_17, x6_18, M_19⟩, hq_21, h⟩ := ob h
  try dsimp only at h
  refine loopW (E := (E_Mod_usesIn_15 G p l e s m _ below meth c _ x3 x4_1)) (w_Mod_usesIn_B15 C x3 x4_1 F) F _ _ hq_21 ?_ _ _ _ hS (lv_sub hl [3, 6, 2, 1, 0] rfl)
  by_cases ek_22 : k_20 = 1
  · replace h := ifp ek_22 h
    subst ek_22
    intro H locs ls hS hl
    refine lv_iload hx hb dX11_usesIn_58 (lv_at hl 0 rfl) ?_
    exact r_iret C hS hr hlk h dX11_usesIn_60
  · replace h := ifn ek_22 h
    cases h
def E_Mod_uses_54 (G : Gl) (p : Program) (l : Launch) (e : Env) (s : State) (m : MethodId) (args : Array Value) (below : List Frame) (meth : Method) (c : Code) (Q : State → Prop) (x1 : Int32) (x2 : Int32) (x4 : Int32) : Nat → (Int32 × Int32 × zM) → Prop := fun k (x5, x6, M) => match k with
  | 0 => ∀ (H : Heap) (locs : List Loc) (ls : Array Slot), St G M s H locs → lv_has ls 7 [(0, .ref (G.1 + 63)), (1, .int x1), (2, .int x2), (4, .int x4), (5, .int x5), (6, .int x6)] → W p l e (rmM 2 48) s m args below meth c H locs 0 0 Q (F0 m 54 ls [])
  | 1 => ∀ (H : Heap) (locs : List Loc) (ls : Array Slot), St G M s H locs → lv_has ls 7 [(5, .int x5)] → W p l e (rmM 2 48) s m args below meth c H locs 0 0 Q (F0 m 80 ls [])
  | _ => True
set_option maxHeartbeats 4000000 in
set_option maxRecDepth 100000 in
theorem w_Mod_uses_B54 {G : Gl} {p : Program} {l : Launch} {e : Env} {s : State} {m : MethodId} {args : Array Value} {below : List Frame} {meth : Method} {c : Code} {Q : State → Prop} (C : Cx G cX11_uses 7 RX11 p s m args c) (x1 : Int32) (x2 : Int32) (x4 : Int32) (F : Nat) : ∀ (σ : (Int32 × Int32 × zM)) (q : Nat × (Int32 × Int32 × zM)), Mod_uses_B54 F x1 x2 x4 σ = some q → (E_Mod_uses_54 G p l e s m args below meth c Q x1 x2 x4) q.1 q.2 → (E_Mod_uses_54 G p l e s m args below meth c Q x1 x2 x4) 0 σ := by
  intro (x5, x6, M) q h hE H locs ls hS hl
  obtain ⟨hx, hb, -⟩ := id C
  unfold Mod_uses_B54 at h
  try dsimp only at h
  refine lv_iload hx hb dX11_uses_54 (lv_at hl 5 rfl) ?_
  refine lv_iload hx hb dX11_uses_56 (lv_at hl 3 rfl) ?_
  refine lv_icmp_gt (tgt := 80) hx hb dX11_uses_58 (by decide) (fun c_18 => ?_) (fun c_18 => ?_)
  · replace h := ifp c_18 h
    obtain rfl := Option.some.inj h
    exact hE _ _ _ hS (lv_sub hl [4] rfl)
  · replace h := ifn c_18 h
    refine lv_iload hx hb dX11_uses_61 (lv_at hl 4 rfl) ?_
    refine lv_aload_n hx hb dX11_uses_63 rfl (lv_at hl 0 rfl) ?_
    refine lv_iload_n hx hb dX11_uses_64 rfl (lv_at hl 1 rfl) ?_
    refine lv_iload hx hb dX11_uses_65 (lv_at hl 5 rfl) ?_
    refine lv_iload_n hx hb dX11_uses_67 rfl (lv_at hl 2 rfl) ?_
    obtain ⟨⟨r_19, M_20⟩, hq_21, h⟩ := ob h
    try dsimp only at h
    refine r_thenI hS (r_runV C hS hl.1 cv_X11_250 rfl (c_X11_usesIn l G F x1 x6 x2 M  _ hq_21) ⟨by decide, by decide⟩ rfl rfl (Nat.le_of_ble_eq_true rfl) ⟨Nat.zero_le _, Nat.zero_le _⟩ dX11_uses_68) (fun H locs hS => ?_)
    refine lv_iadd hx hb dX11_uses_71 ?_
    obtain ⟨x5_22, e_23, h⟩ := olt h
    refine r_nI e_23 ?_
    refine lv_istore (lv' := [(5, .int x5_22), (0, .ref (G.1 + 63)), (1, .int x1), (2, .int x2), (4, .int x4), (6, .int x6)]) hx hb dX11_uses_72 hl (by decide) rfl (fun ls hl => ?_)
    obtain ⟨x6_24, e_25, h⟩ := olt h
    refine lv_iinc (v := x6_24) (lv' := [(6, .int x6_24), (5, .int x5_22), (0, .ref (G.1 + 63)), (1, .int x1), (2, .int x2), (4, .int x4)]) hx hb dX11_uses_74 hl (k := 5) rfl (by rw [e_25]; rfl) (by decide) rfl (fun ls hl => ?_)
    refine lv_goto (tgt := 54) hx hb dX11_uses_77 (by decide) ?_
    obtain rfl := Option.some.inj h
    exact hE _ _ _ hS (lv_sub hl [2, 3, 4, 5, 1, 0] rfl)
set_option maxHeartbeats 4000000 in
set_option maxRecDepth 100000 in
theorem c_X11_uses (l : Launch) (G : Gl) (F : Nat) (x1 : Int32) (x2 : Int32) (x3 : Int32) (x4 : Int32) (M : zM)  (q : Int32 × zM) (h : Mod_uses F x1 x2 x3 x4 M = some q) : Met l yX11_uses (wsM yX11_uses cX11_uses 7 (some .int)) (rmM 2 48) (Pre G M [.ref (G.1 + 63), .int x1, .int x2, .int x3, .int x4]) (PoI G q) 0 0 (gA G) := by
  refine r_met (own := RX11) rfl (by decide) (Nat.le_of_ble_eq_true rfl) ?_
  intro p e s m below meth c ls C hr hlk hS hl
  have hl : lv_has ls 7 [(0, .ref (G.1 + 63)), (1, .int x1), (2, .int x2), (3, .int x3), (4, .int x4)] := hl
  obtain ⟨hx, hb, -⟩ := id C
  unfold Mod_uses at h
  refine lv_iload_n hx hb dX11_uses_0 rfl (lv_at hl 1 rfl) ?_
  obtain ⟨⟨r_1, M_2⟩, hq_3, h⟩ := ob h
  try dsimp only at h
  refine r_thenI hS (r_runS C hS hl.1 cs_X11_194 (c_X11_isTongue l G F x1 M  _ hq_3) ⟨by decide, by decide⟩ rfl rfl (Nat.le_of_ble_eq_true rfl) ⟨Nat.zero_le _, Nat.zero_le _⟩ dX11_uses_1) (fun H locs hS => ?_)
  refine lv_if_eq (tgt := 22) hx hb dX11_uses_4 (by decide) (fun c_4 => ?_) (fun c_4 => ?_)
  · replace h := ifp c_4 h
    refine lv_sipush (v := (-1001)) hx hb dX11_uses_22 (by decide) ?_
    exact r_iret C hS hr hlk h dX11_uses_25
  · replace h := ifn c_4 h
    refine lv_iload_n hx hb dX11_uses_7 rfl (lv_at hl 3 rfl) ?_
    obtain ⟨⟨r_5, M_6⟩, hq_7, h⟩ := ob h
    try dsimp only at h
    refine r_thenI hS (r_runS C hS hl.1 cs_X11_216 (c_X11_isNumber l G F x3 M_2  _ hq_7) ⟨by decide, by decide⟩ rfl rfl (Nat.le_of_ble_eq_true rfl) ⟨Nat.zero_le _, Nat.zero_le _⟩ dX11_uses_8) (fun H locs hS => ?_)
    refine lv_if_eq (tgt := 22) hx hb dX11_uses_11 (by decide) (fun c_8 => ?_) (fun c_8 => ?_)
    · replace h := ifp c_8 h
      refine lv_sipush (v := (-1001)) hx hb dX11_uses_22 (by decide) ?_
      exact r_iret C hS hr hlk h dX11_uses_25
    · replace h := ifn c_8 h
      refine lv_iload hx hb dX11_uses_14 (lv_at hl 4 rfl) ?_
      obtain ⟨⟨r_9, M_10⟩, hq_11, h⟩ := ob h
      try dsimp only at h
      refine r_thenI hS (r_runS C hS hl.1 cs_X11_216 (c_X11_isNumber l G F x4 M_6  _ hq_11) ⟨by decide, by decide⟩ rfl rfl (Nat.le_of_ble_eq_true rfl) ⟨Nat.zero_le _, Nat.zero_le _⟩ dX11_uses_16) (fun H locs hS => ?_)
      refine lv_if_ne (tgt := 26) hx hb dX11_uses_19 (by decide) (fun c_12 => ?_) (fun c_12 => ?_)
      · replace h := ifn c_12 h
        refine lv_iload_n hx hb dX11_uses_26 rfl (lv_at hl 2 rfl) ?_
        refine lv_i2l (v := x2.toInt64) hx hb dX11_uses_27 rfl ?_
        refine lv_lconst (v := 0) hx hb dX11_uses_28 (by decide) ?_
        refine lv_ldc2 hx hb C.2.2.2.1 (C.2.2.2.2.1 _ tw_1170) dX11_uses_29 ?_
        obtain ⟨⟨r_13, M_14⟩, hq_15, h⟩ := ob h
        try dsimp only at h
        refine r_thenI hS (r_runS C hS hl.1 cs_X11_123 (c_X11_in l G F x2.toInt64 0 25 M_10  _ hq_15) ⟨by decide, by decide⟩ rfl rfl (Nat.le_of_ble_eq_true rfl) ⟨Nat.zero_le _, Nat.zero_le _⟩ dX11_uses_32) (fun H locs hS => ?_)
        refine lv_if_eq (tgt := 44) hx hb dX11_uses_35 (by decide) (fun c_16 => ?_) (fun c_16 => ?_)
        · replace h := ifp c_16 h
          refine lv_sipush (v := (-1002)) hx hb dX11_uses_44 (by decide) ?_
          exact r_iret C hS hr hlk h dX11_uses_47
        · replace h := ifn c_16 h
          refine lv_iload hx hb dX11_uses_38 (lv_at hl 4 rfl) ?_
          refine lv_iload_n hx hb dX11_uses_40 rfl (lv_at hl 3 rfl) ?_
          refine lv_icmp_ge (tgt := 48) hx hb dX11_uses_41 (by decide) (fun c_17 => ?_) (fun c_17 => ?_)
          · replace h := ifp c_17 h
            refine lv_iconst (v := 0) hx hb dX11_uses_48 (by decide) ?_
            refine lv_istore (lv' := [(5, .int 0), (0, .ref (G.1 + 63)), (1, .int x1), (2, .int x2), (3, .int x3), (4, .int x4)]) hx hb dX11_uses_49 hl (by decide) rfl (fun ls hl => ?_)
            refine lv_iload_n hx hb dX11_uses_51 rfl (lv_at hl 4 rfl) ?_
            refine lv_istore (lv' := [(6, .int x3), (5, .int 0), (0, .ref (G.1 + 63)), (1, .int x1), (2, .int x2), (3, .int x3), (4, .int x4)]) hx hb dX11_uses_52 hl (by decide) rfl (fun ls hl => ?_)
            obtain ⟨⟨k_29, x5_26, x6_27, M_28⟩, hq_30, h⟩ := ob h
            try dsimp only at h
            refine loopW (E := (E_Mod_uses_54 G p l e s m _ below meth c _ x1 x2 x4)) (w_Mod_uses_B54 C x1 x2 x4 F) F _ _ hq_30 ?_ _ _ _ hS (lv_sub hl [2, 3, 4, 6, 1, 0] rfl)
            by_cases ek_31 : k_29 = 1
            · replace h := ifp ek_31 h
              subst ek_31
              intro H locs ls hS hl
              refine lv_iload hx hb dX11_uses_80 (lv_at hl 0 rfl) ?_
              exact r_iret C hS hr hlk h dX11_uses_82
            · replace h := ifn ek_31 h
              cases h
          · replace h := ifn c_17 h
            refine lv_sipush (v := (-1002)) hx hb dX11_uses_44 (by decide) ?_
            exact r_iret C hS hr hlk h dX11_uses_47
      · replace h := ifp c_12 h
        refine lv_sipush (v := (-1001)) hx hb dX11_uses_22 (by decide) ?_
        exact r_iret C hS hr hlk h dX11_uses_25
def E_Mod_first_29 (G : Gl) (p : Program) (l : Launch) (e : Env) (s : State) (m : MethodId) (args : Array Value) (below : List Frame) (meth : Method) (c : Code) (Q : State → Prop) (x1 : Int32) (x2 : Int32) : Nat → (Int32 × zM) → Prop := fun k (x3, M) => match k with
  | 0 => ∀ (H : Heap) (locs : List Loc) (ls : Array Slot), St G M s H locs → lv_has ls 4 [(0, .ref (G.1 + 63)), (1, .int x1), (2, .int x2), (3, .int x3)] → W p l e (rmM 2 48) s m args below meth c H locs 0 0 Q (F0 m 29 ls [])
  | 1 => ∀ (H : Heap) (locs : List Loc) (ls : Array Slot), St G M s H locs → lv_has ls 4 [(3, .int x3)] → W p l e (rmM 2 48) s m args below meth c H locs 0 0 Q (F0 m 46 ls [])
  | 2 => ∀ (H : Heap) (locs : List Loc) (ls : Array Slot), St G M s H locs → lv_has ls 4 [] → W p l e (rmM 2 48) s m args below meth c H locs 0 0 Q (F0 m 54 ls [])
  | _ => True
set_option maxHeartbeats 4000000 in
set_option maxRecDepth 100000 in
theorem w_Mod_first_B29 {G : Gl} {p : Program} {l : Launch} {e : Env} {s : State} {m : MethodId} {args : Array Value} {below : List Frame} {meth : Method} {c : Code} {Q : State → Prop} (C : Cx G cX11_first 4 RX11 p s m args c) (x1 : Int32) (x2 : Int32) (F : Nat) : ∀ (σ : (Int32 × zM)) (q : Nat × (Int32 × zM)), Mod_first_B29 F x1 x2 σ = some q → (E_Mod_first_29 G p l e s m args below meth c Q x1 x2) q.1 q.2 → (E_Mod_first_29 G p l e s m args below meth c Q x1 x2) 0 σ := by
  intro (x3, M) q h hE H locs ls hS hl
  obtain ⟨hx, hb, -⟩ := id C
  unfold Mod_first_B29 at h
  try dsimp only at h
  refine lv_iload_n hx hb dX11_first_29 rfl (lv_at hl 3 rfl) ?_
  refine lv_sipush (v := 1000) hx hb dX11_first_30 (by decide) ?_
  refine lv_icmp_ge (tgt := 54) hx hb dX11_first_33 (by decide) (fun c_9 => ?_) (fun c_9 => ?_)
  · replace h := ifp c_9 h
    obtain rfl := Option.some.inj h
    exact hE _ _ _ hS (lv_sub hl [] rfl)
  · replace h := ifn c_9 h
    refine lv_aload_n hx hb dX11_first_36 rfl (lv_at hl 0 rfl) ?_
    refine lv_iload_n hx hb dX11_first_37 rfl (lv_at hl 1 rfl) ?_
    refine lv_iload_n hx hb dX11_first_38 rfl (lv_at hl 3 rfl) ?_
    refine lv_iload_n hx hb dX11_first_39 rfl (lv_at hl 2 rfl) ?_
    obtain ⟨⟨r_10, M_11⟩, hq_12, h⟩ := ob h
    try dsimp only at h
    refine r_thenI hS (r_runV C hS hl.1 cv_X11_250 rfl (c_X11_usesIn l G F x1 x3 x2 M  _ hq_12) ⟨by decide, by decide⟩ rfl rfl (Nat.le_of_ble_eq_true rfl) ⟨Nat.zero_le _, Nat.zero_le _⟩ dX11_first_40) (fun H locs hS => ?_)
    refine lv_if_le (tgt := 48) hx hb dX11_first_43 (by decide) (fun c_13 => ?_) (fun c_13 => ?_)
    · replace h := ifp c_13 h
      obtain ⟨x3_14, e_15, h⟩ := olt h
      refine lv_iinc (v := x3_14) (lv' := [(3, .int x3_14), (0, .ref (G.1 + 63)), (1, .int x1), (2, .int x2)]) hx hb dX11_first_48 hl (k := 3) rfl (by rw [e_15]; rfl) (by decide) rfl (fun ls hl => ?_)
      refine lv_goto (tgt := 29) hx hb dX11_first_51 (by decide) ?_
      obtain rfl := Option.some.inj h
      exact hE _ _ _ hS (lv_sub hl [1, 2, 3, 0] rfl)
    · replace h := ifn c_13 h
      obtain rfl := Option.some.inj h
      exact hE _ _ _ hS (lv_sub hl [3] rfl)
set_option maxHeartbeats 4000000 in
set_option maxRecDepth 100000 in
theorem c_X11_first (l : Launch) (G : Gl) (F : Nat) (x1 : Int32) (x2 : Int32) (M : zM)  (q : Int32 × zM) (h : Mod_first F x1 x2 M = some q) : Met l yX11_first (wsM yX11_first cX11_first 4 (some .int)) (rmM 2 48) (Pre G M [.ref (G.1 + 63), .int x1, .int x2]) (PoI G q) 0 0 (gA G) := by
  refine r_met (own := RX11) rfl (by decide) (Nat.le_of_ble_eq_true rfl) ?_
  intro p e s m below meth c ls C hr hlk hS hl
  have hl : lv_has ls 4 [(0, .ref (G.1 + 63)), (1, .int x1), (2, .int x2)] := hl
  obtain ⟨hx, hb, -⟩ := id C
  unfold Mod_first at h
  refine lv_iload_n hx hb dX11_first_0 rfl (lv_at hl 1 rfl) ?_
  obtain ⟨⟨r_1, M_2⟩, hq_3, h⟩ := ob h
  try dsimp only at h
  refine r_thenI hS (r_runS C hS hl.1 cs_X11_194 (c_X11_isTongue l G F x1 M  _ hq_3) ⟨by decide, by decide⟩ rfl rfl (Nat.le_of_ble_eq_true rfl) ⟨Nat.zero_le _, Nat.zero_le _⟩ dX11_first_1) (fun H locs hS => ?_)
  refine lv_if_ne (tgt := 11) hx hb dX11_first_4 (by decide) (fun c_4 => ?_) (fun c_4 => ?_)
  · replace h := ifn c_4 h
    refine lv_iload_n hx hb dX11_first_11 rfl (lv_at hl 2 rfl) ?_
    refine lv_i2l (v := x2.toInt64) hx hb dX11_first_12 rfl ?_
    refine lv_lconst (v := 0) hx hb dX11_first_13 (by decide) ?_
    refine lv_ldc2 hx hb C.2.2.2.1 (C.2.2.2.2.1 _ tw_1170) dX11_first_14 ?_
    obtain ⟨⟨r_5, M_6⟩, hq_7, h⟩ := ob h
    try dsimp only at h
    refine r_thenI hS (r_runS C hS hl.1 cs_X11_123 (c_X11_in l G F x2.toInt64 0 25 M_2  _ hq_7) ⟨by decide, by decide⟩ rfl rfl (Nat.le_of_ble_eq_true rfl) ⟨Nat.zero_le _, Nat.zero_le _⟩ dX11_first_17) (fun H locs hS => ?_)
    refine lv_if_ne (tgt := 27) hx hb dX11_first_20 (by decide) (fun c_8 => ?_) (fun c_8 => ?_)
    · replace h := ifn c_8 h
      refine lv_iconst (v := 0) hx hb dX11_first_27 (by decide) ?_
      refine lv_istore_n (lv' := [(3, .int 0), (0, .ref (G.1 + 63)), (1, .int x1), (2, .int x2)]) hx hb dX11_first_28 rfl hl (by decide) rfl (fun ls hl => ?_)
      obtain ⟨⟨k_18, x3_16, M_17⟩, hq_19, h⟩ := ob h
      try dsimp only at h
      refine loopW (E := (E_Mod_first_29 G p l e s m _ below meth c _ x1 x2)) (w_Mod_first_B29 C x1 x2 F) F _ _ hq_19 ?_ _ _ _ hS (lv_sub hl [1, 2, 3, 0] rfl)
      by_cases ek_21 : k_18 = 1
      · replace h := ifp ek_21 h
        subst ek_21
        intro H locs ls hS hl
        refine lv_iload_n hx hb dX11_first_46 rfl (lv_at hl 0 rfl) ?_
        exact r_iret C hS hr hlk h dX11_first_47
      · replace h := ifn ek_21 h
        by_cases ek_20 : k_18 = 2
        · replace h := ifp ek_20 h
          subst ek_20
          intro H locs ls hS hl
          refine lv_iconst (v := (-1)) hx hb dX11_first_54 (by decide) ?_
          exact r_iret C hS hr hlk h dX11_first_55
        · replace h := ifn ek_20 h
          cases h
    · replace h := ifp c_8 h
      refine lv_sipush (v := (-1002)) hx hb dX11_first_23 (by decide) ?_
      exact r_iret C hS hr hlk h dX11_first_26
  · replace h := ifp c_4 h
    refine lv_sipush (v := (-1001)) hx hb dX11_first_7 (by decide) ?_
    exact r_iret C hS hr hlk h dX11_first_10
def E_Mod_song_40 (G : Gl) (p : Program) (l : Launch) (e : Env) (s : State) (m : MethodId) (args : Array Value) (below : List Frame) (meth : Method) (c : Code) (Q : State → Prop) (x1 : Int32) (x3 : Int32) : Nat → (Int32 × Int32 × zM) → Prop := fun k (x4, x5, M) => match k with
  | 0 => ∀ (H : Heap) (locs : List Loc) (ls : Array Slot), St G M s H locs → lv_has ls 6 [(0, .ref (G.1 + 63)), (1, .int x1), (3, .int x3), (4, .int x4), (5, .int x5)] → W p l e (rmM 2 45) s m args below meth c H locs 0 0 Q (F0 m 40 ls [])
  | 1 => ∀ (H : Heap) (locs : List Loc) (ls : Array Slot), St G M s H locs → lv_has ls 6 [(4, .int x4)] → W p l e (rmM 2 45) s m args below meth c H locs 0 0 Q (F0 m 90 ls [])
  | _ => True
set_option maxHeartbeats 4000000 in
set_option maxRecDepth 100000 in
theorem w_Mod_song_B40 {G : Gl} {p : Program} {l : Launch} {e : Env} {s : State} {m : MethodId} {args : Array Value} {below : List Frame} {meth : Method} {c : Code} {Q : State → Prop} (C : Cx G cX11_song 6 RX11 p s m args c) (x1 : Int32) (x3 : Int32) (F : Nat) : ∀ (σ : (Int32 × Int32 × zM)) (q : Nat × (Int32 × Int32 × zM)), Mod_song_B40 F x1 x3 σ = some q → (E_Mod_song_40 G p l e s m args below meth c Q x1 x3) q.1 q.2 → (E_Mod_song_40 G p l e s m args below meth c Q x1 x3) 0 σ := by
  intro (x4, x5, M) q h hE H locs ls hS hl
  obtain ⟨hx, hb, -⟩ := id C
  unfold Mod_song_B40 at h
  try dsimp only at h
  refine lv_iload hx hb dX11_song_40 (lv_at hl 4 rfl) ?_
  refine lv_iload_n hx hb dX11_song_42 rfl (lv_at hl 2 rfl) ?_
  refine lv_icmp_gt (tgt := 90) hx hb dX11_song_43 (by decide) (fun c_14 => ?_) (fun c_14 => ?_)
  · replace h := ifp c_14 h
    obtain rfl := Option.some.inj h
    exact hE _ _ _ hS (lv_sub hl [3] rfl)
  · replace h := ifn c_14 h
    refine lv_iload hx hb dX11_song_46 (lv_at hl 3 rfl) ?_
    refine lv_aload_n hx hb dX11_song_48 rfl (lv_at hl 0 rfl) ?_
    refine r_gR C hS fl_X11_41 rfl rfl rfl dX11_song_49 ?_
    refine lv_sipush (v := 1000) hx hb dX11_song_52 (by decide) ?_
    refine lv_iload_n hx hb dX11_song_55 rfl (lv_at hl 1 rfl) ?_
    refine lv_imul hx hb dX11_song_56 ?_
    refine lv_iload hx hb dX11_song_57 (lv_at hl 4 rfl) ?_
    refine lv_iadd hx hb dX11_song_59 ?_
    obtain ⟨b_15, h⟩ := ift h
    refine r_iald C hS rfl rfl b_15 dX11_song_60 ?_
    refine lv_if_ge (tgt := 68) hx hb dX11_song_61 (by decide) (fun c_16 => ?_) (fun c_16 => ?_)
    · replace h := ifp c_16 h
      refine lv_aload_n hx hb dX11_song_68 rfl (lv_at hl 0 rfl) ?_
      refine r_gR C hS fl_X11_54 rfl rfl rfl dX11_song_69 ?_
      refine lv_sipush (v := 1000) hx hb dX11_song_72 (by decide) ?_
      refine lv_iload_n hx hb dX11_song_75 rfl (lv_at hl 1 rfl) ?_
      refine lv_imul hx hb dX11_song_76 ?_
      refine lv_iload hx hb dX11_song_77 (lv_at hl 4 rfl) ?_
      refine lv_iadd hx hb dX11_song_79 ?_
      refine r_iald C hS rfl rfl b_15 dX11_song_80 ?_
      refine lv_iadd hx hb dX11_song_81 ?_
      obtain ⟨x4_17, e_18, h⟩ := olt h
      refine r_nI e_18 ?_
      refine lv_istore (lv' := [(4, .int x4_17), (0, .ref (G.1 + 63)), (1, .int x1), (3, .int x3), (5, .int x5)]) hx hb dX11_song_82 hl (by decide) rfl (fun ls hl => ?_)
      obtain ⟨x5_19, e_20, h⟩ := olt h
      refine lv_iinc (v := x5_19) (lv' := [(5, .int x5_19), (4, .int x4_17), (0, .ref (G.1 + 63)), (1, .int x1), (3, .int x3)]) hx hb dX11_song_84 hl (k := 4) rfl (by rw [e_20]; rfl) (by decide) rfl (fun ls hl => ?_)
      refine lv_goto (tgt := 40) hx hb dX11_song_87 (by decide) ?_
      obtain rfl := Option.some.inj h
      exact hE _ _ _ hS (lv_sub hl [2, 3, 4, 1, 0] rfl)
    · replace h := ifn c_16 h
      refine lv_iconst (v := 0) hx hb dX11_song_64 (by decide) ?_
      refine lv_goto (tgt := 81) hx hb dX11_song_65 (by decide) ?_
      refine lv_iadd hx hb dX11_song_81 ?_
      obtain ⟨x4_21, e_22, h⟩ := olt h
      refine r_nI e_22 ?_
      refine lv_istore (lv' := [(4, .int x4_21), (0, .ref (G.1 + 63)), (1, .int x1), (3, .int x3), (5, .int x5)]) hx hb dX11_song_82 hl (by decide) rfl (fun ls hl => ?_)
      obtain ⟨x5_23, e_24, h⟩ := olt h
      refine lv_iinc (v := x5_23) (lv' := [(5, .int x5_23), (4, .int x4_21), (0, .ref (G.1 + 63)), (1, .int x1), (3, .int x3)]) hx hb dX11_song_84 hl (k := 4) rfl (by rw [e_24]; rfl) (by decide) rfl (fun ls hl => ?_)
      refine lv_goto (tgt := 40) hx hb dX11_song_87 (by decide) ?_
      obtain rfl := Option.some.inj h
      exact hE _ _ _ hS (lv_sub hl [2, 3, 4, 1, 0] rfl)
set_option maxHeartbeats 4000000 in
set_option maxRecDepth 100000 in
theorem c_X11_song (l : Launch) (G : Gl) (F : Nat) (x1 : Int32) (x2 : Int32) (x3 : Int32) (M : zM)  (q : Int32 × zM) (h : Mod_song F x1 x2 x3 M = some q) : Met l yX11_song (wsM yX11_song cX11_song 6 (some .int)) (rmM 2 45) (Pre G M [.ref (G.1 + 63), .int x1, .int x2, .int x3]) (PoI G q) 0 0 (gA G) := by
  refine r_met (own := RX11) rfl (by decide) (Nat.le_of_ble_eq_true rfl) ?_
  intro p e s m below meth c ls C hr hlk hS hl
  have hl : lv_has ls 6 [(0, .ref (G.1 + 63)), (1, .int x1), (2, .int x2), (3, .int x3)] := hl
  obtain ⟨hx, hb, -⟩ := id C
  unfold Mod_song at h
  refine lv_iload_n hx hb dX11_song_0 rfl (lv_at hl 1 rfl) ?_
  obtain ⟨⟨r_1, M_2⟩, hq_3, h⟩ := ob h
  try dsimp only at h
  refine r_thenI hS (r_runS C hS hl.1 cs_X11_194 (c_X11_isTongue l G F x1 M  _ hq_3) ⟨by decide, by decide⟩ rfl rfl (Nat.le_of_ble_eq_true rfl) ⟨Nat.zero_le _, Nat.zero_le _⟩ dX11_song_1) (fun H locs hS => ?_)
  refine lv_if_eq (tgt := 21) hx hb dX11_song_4 (by decide) (fun c_4 => ?_) (fun c_4 => ?_)
  · replace h := ifp c_4 h
    refine lv_sipush (v := (-1001)) hx hb dX11_song_21 (by decide) ?_
    exact r_iret C hS hr hlk h dX11_song_24
  · replace h := ifn c_4 h
    refine lv_iload_n hx hb dX11_song_7 rfl (lv_at hl 2 rfl) ?_
    obtain ⟨⟨r_5, M_6⟩, hq_7, h⟩ := ob h
    try dsimp only at h
    refine r_thenI hS (r_runS C hS hl.1 cs_X11_216 (c_X11_isNumber l G F x2 M_2  _ hq_7) ⟨by decide, by decide⟩ rfl rfl (Nat.le_of_ble_eq_true rfl) ⟨Nat.zero_le _, Nat.zero_le _⟩ dX11_song_8) (fun H locs hS => ?_)
    refine lv_if_eq (tgt := 21) hx hb dX11_song_11 (by decide) (fun c_8 => ?_) (fun c_8 => ?_)
    · replace h := ifp c_8 h
      refine lv_sipush (v := (-1001)) hx hb dX11_song_21 (by decide) ?_
      exact r_iret C hS hr hlk h dX11_song_24
    · replace h := ifn c_8 h
      refine lv_iload_n hx hb dX11_song_14 rfl (lv_at hl 3 rfl) ?_
      obtain ⟨⟨r_9, M_10⟩, hq_11, h⟩ := ob h
      try dsimp only at h
      refine r_thenI hS (r_runS C hS hl.1 cs_X11_216 (c_X11_isNumber l G F x3 M_6  _ hq_11) ⟨by decide, by decide⟩ rfl rfl (Nat.le_of_ble_eq_true rfl) ⟨Nat.zero_le _, Nat.zero_le _⟩ dX11_song_15) (fun H locs hS => ?_)
      refine lv_if_ne (tgt := 25) hx hb dX11_song_18 (by decide) (fun c_12 => ?_) (fun c_12 => ?_)
      · replace h := ifn c_12 h
        refine lv_iload_n hx hb dX11_song_25 rfl (lv_at hl 3 rfl) ?_
        refine lv_iload_n hx hb dX11_song_26 rfl (lv_at hl 2 rfl) ?_
        refine lv_icmp_ge (tgt := 34) hx hb dX11_song_27 (by decide) (fun c_13 => ?_) (fun c_13 => ?_)
        · replace h := ifp c_13 h
          refine lv_iconst (v := 0) hx hb dX11_song_34 (by decide) ?_
          refine lv_istore (lv' := [(4, .int 0), (0, .ref (G.1 + 63)), (1, .int x1), (2, .int x2), (3, .int x3)]) hx hb dX11_song_35 hl (by decide) rfl (fun ls hl => ?_)
          refine lv_iload_n hx hb dX11_song_37 rfl (lv_at hl 3 rfl) ?_
          refine lv_istore (lv' := [(5, .int x2), (4, .int 0), (0, .ref (G.1 + 63)), (1, .int x1), (2, .int x2), (3, .int x3)]) hx hb dX11_song_38 hl (by decide) rfl (fun ls hl => ?_)
          obtain ⟨⟨k_28, x4_25, x5_26, M_27⟩, hq_29, h⟩ := ob h
          try dsimp only at h
          refine loopW (E := (E_Mod_song_40 G p l e s m _ below meth c _ x1 x3)) (w_Mod_song_B40 C x1 x3 F) F _ _ hq_29 ?_ _ _ _ hS (lv_sub hl [2, 3, 5, 1, 0] rfl)
          by_cases ek_30 : k_28 = 1
          · replace h := ifp ek_30 h
            subst ek_30
            intro H locs ls hS hl
            refine lv_iload hx hb dX11_song_90 (lv_at hl 0 rfl) ?_
            exact r_iret C hS hr hlk h dX11_song_92
          · replace h := ifn ek_30 h
            cases h
        · replace h := ifn c_13 h
          refine lv_sipush (v := (-1002)) hx hb dX11_song_30 (by decide) ?_
          exact r_iret C hS hr hlk h dX11_song_33
      · replace h := ifp c_12 h
        refine lv_sipush (v := (-1001)) hx hb dX11_song_21 (by decide) ?_
        exact r_iret C hS hr hlk h dX11_song_24
def E_Mod_isAhead_21 (G : Gl) (p : Program) (l : Launch) (e : Env) (s : State) (m : MethodId) (args : Array Value) (below : List Frame) (meth : Method) (c : Code) (Q : State → Prop) (x2 : Int32) (x3 : Int32) (x4 : Int32) (x5 : Int32) : Nat → (Int32 × zM) → Prop := fun k (x6, M) => match k with
  | 0 => ∀ (H : Heap) (locs : List Loc) (ls : Array Slot), St G M s H locs → lv_has ls 7 [(0, .ref (G.1 + 63)), (2, .int x2), (3, .int x3), (4, .int x4), (5, .int x5), (6, .int x6)] → W p l e (rmM 1 22) s m args below meth c H locs 0 0 Q (F0 m 21 ls [])
  | 1 => ∀ (H : Heap) (locs : List Loc) (ls : Array Slot), St G M s H locs → lv_has ls 7 [(0, .ref (G.1 + 63)), (2, .int x2), (3, .int x3), (4, .int x4), (5, .int x5), (6, .int x6)] → W p l e (rmM 1 22) s m args below meth c H locs 0 0 Q (F0 m 70 ls [])
  | _ => True
set_option maxHeartbeats 4000000 in
set_option maxRecDepth 100000 in
theorem w_Mod_isAhead_B21 {G : Gl} {p : Program} {l : Launch} {e : Env} {s : State} {m : MethodId} {args : Array Value} {below : List Frame} {meth : Method} {c : Code} {Q : State → Prop} (C : Cx G cX11_isAhead 7 RX11 p s m args c) (x2 : Int32) (x3 : Int32) (x4 : Int32) (x5 : Int32) (F : Nat) : ∀ (σ : (Int32 × zM)) (q : Nat × (Int32 × zM)), Mod_isAhead_B21 F x2 x3 x4 x5 σ = some q → (E_Mod_isAhead_21 G p l e s m args below meth c Q x2 x3 x4 x5) q.1 q.2 → (E_Mod_isAhead_21 G p l e s m args below meth c Q x2 x3 x4 x5) 0 σ := by
  intro (x6, M) q h hE H locs ls hS hl
  obtain ⟨hx, hb, -⟩ := id C
  unfold Mod_isAhead_B21 at h
  try dsimp only at h
  refine lv_iload hx hb dX11_isAhead_21 (lv_at hl 5 rfl) ?_
  refine lv_aload_n hx hb dX11_isAhead_23 rfl (lv_at hl 0 rfl) ?_
  refine r_gR C hS fl_X11_41 rfl rfl rfl dX11_isAhead_24 ?_
  refine lv_iload hx hb dX11_isAhead_27 (lv_at hl 3 rfl) ?_
  obtain ⟨b_5, h⟩ := ift h
  refine r_iald C hS rfl rfl b_5 dX11_isAhead_29 ?_
  refine lv_icmp_ge (tgt := 70) hx hb dX11_isAhead_30 (by decide) (fun c_6 => ?_) (fun c_6 => ?_)
  · replace h := ifp c_6 h
    obtain rfl := Option.some.inj h
    exact hE _ _ _ hS (lv_sub hl [0, 1, 2, 3, 4, 5] rfl)
  · replace h := ifn c_6 h
    refine lv_iload hx hb dX11_isAhead_33 (lv_at hl 5 rfl) ?_
    refine lv_aload_n hx hb dX11_isAhead_35 rfl (lv_at hl 0 rfl) ?_
    refine r_gR C hS fl_X11_41 rfl rfl rfl dX11_isAhead_36 ?_
    refine lv_iload hx hb dX11_isAhead_39 (lv_at hl 4 rfl) ?_
    obtain ⟨b_7, h⟩ := ift h
    refine r_iald C hS rfl rfl b_7 dX11_isAhead_41 ?_
    refine lv_icmp_ge (tgt := 70) hx hb dX11_isAhead_42 (by decide) (fun c_8 => ?_) (fun c_8 => ?_)
    · replace h := ifp c_8 h
      obtain rfl := Option.some.inj h
      exact hE _ _ _ hS (lv_sub hl [0, 1, 2, 3, 4, 5] rfl)
    · replace h := ifn c_8 h
      refine lv_aload_n hx hb dX11_isAhead_45 rfl (lv_at hl 0 rfl) ?_
      refine lv_iload hx hb dX11_isAhead_46 (lv_at hl 3 rfl) ?_
      refine lv_iload hx hb dX11_isAhead_48 (lv_at hl 5 rfl) ?_
      obtain ⟨⟨r_9, M_10⟩, hq_11, h⟩ := ob h
      try dsimp only at h
      refine r_thenI hS (r_runV C hS hl.1 cv_X11_222 rfl (c_X11_byteOf l G F x4 x6 M  _ hq_11) ⟨by decide, by decide⟩ rfl rfl (Nat.le_of_ble_eq_true rfl) ⟨Nat.zero_le _, Nat.zero_le _⟩ dX11_isAhead_50) (fun H locs hS => ?_)
      refine lv_aload_n hx hb dX11_isAhead_53 rfl (lv_at hl 0 rfl) ?_
      refine lv_iload hx hb dX11_isAhead_54 (lv_at hl 4 rfl) ?_
      refine lv_iload hx hb dX11_isAhead_56 (lv_at hl 5 rfl) ?_
      obtain ⟨⟨r_12, M_13⟩, hq_14, h⟩ := ob h
      try dsimp only at h
      refine r_thenI hS (r_runV C hS hl.1 cv_X11_222 rfl (c_X11_byteOf l G F x5 x6 M_10  _ hq_14) ⟨by decide, by decide⟩ rfl rfl (Nat.le_of_ble_eq_true rfl) ⟨Nat.zero_le _, Nat.zero_le _⟩ dX11_isAhead_58) (fun H locs hS => ?_)
      refine lv_icmp_ne (tgt := 70) hx hb dX11_isAhead_61 (by decide) (fun c_15 => ?_) (fun c_15 => ?_)
      · replace h := ifn c_15 h
        obtain rfl := Option.some.inj h
        exact hE _ _ _ hS (lv_sub hl [0, 1, 2, 3, 4, 5] rfl)
      · replace h := ifp c_15 h
        obtain ⟨x6_16, e_17, h⟩ := olt h
        refine lv_iinc (v := x6_16) (lv' := [(6, .int x6_16), (0, .ref (G.1 + 63)), (2, .int x2), (3, .int x3), (4, .int x4), (5, .int x5)]) hx hb dX11_isAhead_64 hl (k := 5) rfl (by rw [e_17]; rfl) (by decide) rfl (fun ls hl => ?_)
        refine lv_goto (tgt := 21) hx hb dX11_isAhead_67 (by decide) ?_
        obtain rfl := Option.some.inj h
        exact hE _ _ _ hS (lv_sub hl [1, 2, 3, 4, 5, 0] rfl)
set_option maxHeartbeats 4000000 in
set_option maxRecDepth 100000 in
theorem w_Mod_isAhead_J94 {G : Gl} {p : Program} {l : Launch} {e : Env} {s : State} {m : MethodId} {args : Array Value} {below : List Frame} {meth : Method} {c : Code} (C : Cx G cX11_isAhead 7 RX11 p s m args c) (hr : meth.sig.returnType = (some .boolean)) (hlk : meth.locks = false) (F : Nat) (x2 : Int32) (x3 : Int32) (x4 : Int32) (x5 : Int32) (M : zM)  (q : Int32 × zM) (h : Mod_isAhead_J94 F x2 x3 x4 x5 M = some q) (H : Heap) (locs : List Loc) (ls : Array Slot) (hS : St G M s H locs) (hl : lv_has ls 7 [(0, .ref (G.1 + 63)), (2, .int x2), (3, .int x3), (4, .int x4), (5, .int x5)]) : W p l e (rmM 1 22) s m args below meth c H locs 0 0 (MQ below (PoI G q) args s 0 0 (gA G)) (F0 m 94 ls []) := by
  obtain ⟨hx, hb, -⟩ := id C
  unfold Mod_isAhead_J94 at h
  refine lv_aload_n hx hb dX11_isAhead_94 rfl (lv_at hl 0 rfl) ?_
  refine r_gR C hS fl_X11_41 rfl rfl rfl dX11_isAhead_95 ?_
  refine lv_iload hx hb dX11_isAhead_98 (lv_at hl 3 rfl) ?_
  obtain ⟨b_24, h⟩ := ift h
  refine r_iald C hS rfl rfl b_24 dX11_isAhead_100 ?_
  refine lv_aload_n hx hb dX11_isAhead_101 rfl (lv_at hl 0 rfl) ?_
  refine r_gR C hS fl_X11_41 rfl rfl rfl dX11_isAhead_102 ?_
  refine lv_iload hx hb dX11_isAhead_105 (lv_at hl 4 rfl) ?_
  obtain ⟨b_25, h⟩ := ift h
  refine r_iald C hS rfl rfl b_25 dX11_isAhead_107 ?_
  refine lv_icmp_lt (tgt := 133) hx hb dX11_isAhead_108 (by decide) (fun c_26 => ?_) (fun c_26 => ?_)
  · replace h := ifp c_26 h
    refine lv_iconst (v := 1) hx hb dX11_isAhead_133 (by decide) ?_
    refine lv_goto (tgt := 138) hx hb dX11_isAhead_134 (by decide) ?_
    exact r_zret C hS hr hlk h dX11_isAhead_138
  · replace h := ifn c_26 h
    refine lv_aload_n hx hb dX11_isAhead_111 rfl (lv_at hl 0 rfl) ?_
    refine r_gR C hS fl_X11_41 rfl rfl rfl dX11_isAhead_112 ?_
    refine lv_iload hx hb dX11_isAhead_115 (lv_at hl 3 rfl) ?_
    refine r_iald C hS rfl rfl b_24 dX11_isAhead_117 ?_
    refine lv_aload_n hx hb dX11_isAhead_118 rfl (lv_at hl 0 rfl) ?_
    refine r_gR C hS fl_X11_41 rfl rfl rfl dX11_isAhead_119 ?_
    refine lv_iload hx hb dX11_isAhead_122 (lv_at hl 4 rfl) ?_
    refine r_iald C hS rfl rfl b_25 dX11_isAhead_124 ?_
    refine lv_icmp_ne (tgt := 137) hx hb dX11_isAhead_125 (by decide) (fun c_27 => ?_) (fun c_27 => ?_)
    · replace h := ifn c_27 h
      refine lv_iconst (v := 0) hx hb dX11_isAhead_137 (by decide) ?_
      exact r_zret C hS hr hlk h dX11_isAhead_138
    · replace h := ifp c_27 h
      refine lv_iload_n hx hb dX11_isAhead_128 rfl (lv_at hl 1 rfl) ?_
      refine lv_iload_n hx hb dX11_isAhead_129 rfl (lv_at hl 2 rfl) ?_
      refine lv_icmp_ge (tgt := 137) hx hb dX11_isAhead_130 (by decide) (fun c_28 => ?_) (fun c_28 => ?_)
      · replace h := ifp c_28 h
        refine lv_iconst (v := 0) hx hb dX11_isAhead_137 (by decide) ?_
        exact r_zret C hS hr hlk h dX11_isAhead_138
      · replace h := ifn c_28 h
        refine lv_iconst (v := 1) hx hb dX11_isAhead_133 (by decide) ?_
        refine lv_goto (tgt := 138) hx hb dX11_isAhead_134 (by decide) ?_
        exact r_zret C hS hr hlk h dX11_isAhead_138
set_option maxHeartbeats 4000000 in
set_option maxRecDepth 100000 in
theorem w_Mod_isAhead_J70 {G : Gl} {p : Program} {l : Launch} {e : Env} {s : State} {m : MethodId} {args : Array Value} {below : List Frame} {meth : Method} {c : Code} (C : Cx G cX11_isAhead 7 RX11 p s m args c) (hr : meth.sig.returnType = (some .boolean)) (hlk : meth.locks = false) (F : Nat) (x2 : Int32) (x3 : Int32) (x4 : Int32) (x5 : Int32) (x6 : Int32) (M : zM)  (q : Int32 × zM) (h : Mod_isAhead_J70 F x2 x3 x4 x5 x6 M = some q) (H : Heap) (locs : List Loc) (ls : Array Slot) (hS : St G M s H locs) (hl : lv_has ls 7 [(0, .ref (G.1 + 63)), (2, .int x2), (3, .int x3), (4, .int x4), (5, .int x5), (6, .int x6)]) : W p l e (rmM 1 22) s m args below meth c H locs 0 0 (MQ below (PoI G q) args s 0 0 (gA G)) (F0 m 70 ls []) := by
  obtain ⟨hx, hb, -⟩ := id C
  unfold Mod_isAhead_J70 at h
  refine lv_iload hx hb dX11_isAhead_70 (lv_at hl 5 rfl) ?_
  refine lv_aload_n hx hb dX11_isAhead_72 rfl (lv_at hl 0 rfl) ?_
  refine r_gR C hS fl_X11_41 rfl rfl rfl dX11_isAhead_73 ?_
  refine lv_iload hx hb dX11_isAhead_76 (lv_at hl 3 rfl) ?_
  obtain ⟨b_22, h⟩ := ift h
  refine r_iald C hS rfl rfl b_22 dX11_isAhead_78 ?_
  refine lv_icmp_eq (tgt := 94) hx hb dX11_isAhead_79 (by decide) (fun c_23 => ?_) (fun c_23 => ?_)
  · replace h := ifp c_23 h
    exact w_Mod_isAhead_J94 C hr hlk F x2 x3 x4 x5 M  q h _ _ _ hS (lv_sub hl [0, 1, 2, 3, 4] rfl)
  · replace h := ifn c_23 h
    refine lv_iload hx hb dX11_isAhead_82 (lv_at hl 5 rfl) ?_
    refine lv_aload_n hx hb dX11_isAhead_84 rfl (lv_at hl 0 rfl) ?_
    refine r_gR C hS fl_X11_41 rfl rfl rfl dX11_isAhead_85 ?_
    refine lv_iload hx hb dX11_isAhead_88 (lv_at hl 4 rfl) ?_
    obtain ⟨b_29, h⟩ := ift h
    refine r_iald C hS rfl rfl b_29 dX11_isAhead_90 ?_
    refine lv_icmp_ne (tgt := 139) hx hb dX11_isAhead_91 (by decide) (fun c_30 => ?_) (fun c_30 => ?_)
    · replace h := ifn c_30 h
      refine lv_aload_n hx hb dX11_isAhead_139 rfl (lv_at hl 0 rfl) ?_
      refine lv_iload hx hb dX11_isAhead_140 (lv_at hl 3 rfl) ?_
      refine lv_iload hx hb dX11_isAhead_142 (lv_at hl 5 rfl) ?_
      obtain ⟨⟨r_31, M_32⟩, hq_33, h⟩ := ob h
      try dsimp only at h
      refine r_thenI hS (r_runV C hS hl.1 cv_X11_222 rfl (c_X11_byteOf l G F x4 x6 M  _ hq_33) ⟨by decide, by decide⟩ rfl rfl (Nat.le_of_ble_eq_true rfl) ⟨Nat.zero_le _, Nat.zero_le _⟩ dX11_isAhead_144) (fun H locs hS => ?_)
      refine lv_aload_n hx hb dX11_isAhead_147 rfl (lv_at hl 0 rfl) ?_
      refine lv_iload hx hb dX11_isAhead_148 (lv_at hl 4 rfl) ?_
      refine lv_iload hx hb dX11_isAhead_150 (lv_at hl 5 rfl) ?_
      obtain ⟨⟨r_34, M_35⟩, hq_36, h⟩ := ob h
      try dsimp only at h
      refine r_thenI hS (r_runV C hS hl.1 cv_X11_222 rfl (c_X11_byteOf l G F x5 x6 M_32  _ hq_36) ⟨by decide, by decide⟩ rfl rfl (Nat.le_of_ble_eq_true rfl) ⟨Nat.zero_le _, Nat.zero_le _⟩ dX11_isAhead_152) (fun H locs hS => ?_)
      refine lv_icmp_ge (tgt := 162) hx hb dX11_isAhead_155 (by decide) (fun c_37 => ?_) (fun c_37 => ?_)
      · replace h := ifp c_37 h
        refine lv_iconst (v := 0) hx hb dX11_isAhead_162 (by decide) ?_
        exact r_zret C hS hr hlk h dX11_isAhead_163
      · replace h := ifn c_37 h
        refine lv_iconst (v := 1) hx hb dX11_isAhead_158 (by decide) ?_
        refine lv_goto (tgt := 163) hx hb dX11_isAhead_159 (by decide) ?_
        exact r_zret C hS hr hlk h dX11_isAhead_163
    · replace h := ifp c_30 h
      exact w_Mod_isAhead_J94 C hr hlk F x2 x3 x4 x5 M  q h _ _ _ hS (lv_sub hl [0, 1, 2, 3, 4] rfl)
set_option maxHeartbeats 4000000 in
set_option maxRecDepth 100000 in
theorem c_X11_isAhead (l : Launch) (G : Gl) (F : Nat) (x1 : Int32) (x2 : Int32) (x3 : Int32) (M : zM)  (q : Int32 × zM) (h : Mod_isAhead F x1 x2 x3 M = some q) : Met l yX11_isAhead (wsM yX11_isAhead cX11_isAhead 7 (some .boolean)) (rmM 1 22) (Pre G M [.ref (G.1 + 63), .int x1, .int x2, .int x3]) (PoI G q) 0 0 (gA G) := by
  refine r_met (own := RX11) rfl (by decide) (Nat.le_of_ble_eq_true rfl) ?_
  intro p e s m below meth c ls C hr hlk hS hl
  have hl : lv_has ls 7 [(0, .ref (G.1 + 63)), (1, .int x1), (2, .int x2), (3, .int x3)] := hl
  obtain ⟨hx, hb, -⟩ := id C
  unfold Mod_isAhead at h
  refine lv_sipush (v := 1000) hx hb dX11_isAhead_0 (by decide) ?_
  refine lv_iload_n hx hb dX11_isAhead_3 rfl (lv_at hl 1 rfl) ?_
  refine lv_imul hx hb dX11_isAhead_4 ?_
  refine lv_iload_n hx hb dX11_isAhead_5 rfl (lv_at hl 2 rfl) ?_
  refine lv_iadd hx hb dX11_isAhead_6 ?_
  obtain ⟨x4_1, e_2, h⟩ := olt h
  refine r_nI e_2 ?_
  refine lv_istore (lv' := [(4, .int x4_1), (0, .ref (G.1 + 63)), (1, .int x1), (2, .int x2), (3, .int x3)]) hx hb dX11_isAhead_7 hl (by decide) rfl (fun ls hl => ?_)
  refine lv_sipush (v := 1000) hx hb dX11_isAhead_9 (by decide) ?_
  refine lv_iload_n hx hb dX11_isAhead_12 rfl (lv_at hl 2 rfl) ?_
  refine lv_imul hx hb dX11_isAhead_13 ?_
  refine lv_iload_n hx hb dX11_isAhead_14 rfl (lv_at hl 4 rfl) ?_
  refine lv_iadd hx hb dX11_isAhead_15 ?_
  obtain ⟨x5_3, e_4, h⟩ := olt h
  refine r_nI e_4 ?_
  refine lv_istore (lv' := [(5, .int x5_3), (4, .int x4_1), (0, .ref (G.1 + 63)), (1, .int x1), (2, .int x2), (3, .int x3)]) hx hb dX11_isAhead_16 hl (by decide) rfl (fun ls hl => ?_)
  refine lv_iconst (v := 0) hx hb dX11_isAhead_18 (by decide) ?_
  refine lv_istore (lv' := [(6, .int 0), (5, .int x5_3), (4, .int x4_1), (0, .ref (G.1 + 63)), (1, .int x1), (2, .int x2), (3, .int x3)]) hx hb dX11_isAhead_19 hl (by decide) rfl (fun ls hl => ?_)
  obtain ⟨⟨k_20, x6_18, M_19⟩, hq_21, h⟩ := ob h
  try dsimp only at h
  refine loopW (E := (E_Mod_isAhead_21 G p l e s m _ below meth c _ x2 x3 x4_1 x5_3)) (w_Mod_isAhead_B21 C x2 x3 x4_1 x5_3 F) F _ _ hq_21 ?_ _ _ _ hS (lv_sub hl [3, 5, 6, 2, 1, 0] rfl)
  by_cases ek_38 : k_20 = 1
  · replace h := ifp ek_38 h
    subst ek_38
    intro H locs ls hS hl
    exact w_Mod_isAhead_J70 C hr hlk F x2 x3 x4_1 x5_3 x6_18 M_19  q h _ _ _ hS (lv_sub hl [0, 1, 2, 3, 4, 5] rfl)
  · replace h := ifn ek_38 h
    cases h
def E_Mod_findOrder_23 (G : Gl) (p : Program) (l : Launch) (e : Env) (s : State) (m : MethodId) (args : Array Value) (below : List Frame) (meth : Method) (c : Code) (Q : State → Prop) (x1 : Int32) : Nat → (Int32 × zM) → Prop := fun k (x2, M) => match k with
  | 0 => ∀ (H : Heap) (locs : List Loc) (ls : Array Slot), St G M s H locs → lv_has ls 6 [(0, .ref (G.1 + 63)), (1, .int x1), (2, .int x2)] → W p l e (rmM 2 48) s m args below meth c H locs 0 0 Q (F0 m 23 ls [])
  | 1 => ∀ (H : Heap) (locs : List Loc) (ls : Array Slot), St G M s H locs → lv_has ls 6 [(0, .ref (G.1 + 63)), (1, .int x1)] → W p l e (rmM 2 48) s m args below meth c H locs 0 0 Q (F0 m 71 ls [])
  | _ => True
set_option maxHeartbeats 4000000 in
set_option maxRecDepth 100000 in
theorem w_Mod_findOrder_B23 {G : Gl} {p : Program} {l : Launch} {e : Env} {s : State} {m : MethodId} {args : Array Value} {below : List Frame} {meth : Method} {c : Code} {Q : State → Prop} (C : Cx G cX11_findOrder 6 RX11 p s m args c) (x1 : Int32) (F : Nat) : ∀ (σ : (Int32 × zM)) (q : Nat × (Int32 × zM)), Mod_findOrder_B23 F x1 σ = some q → (E_Mod_findOrder_23 G p l e s m args below meth c Q x1) q.1 q.2 → (E_Mod_findOrder_23 G p l e s m args below meth c Q x1) 0 σ := by
  intro (x2, M) q h hE H locs ls hS hl
  obtain ⟨hx, hb, -⟩ := id C
  unfold Mod_findOrder_B23 at h
  try dsimp only at h
  refine lv_iload_n hx hb dX11_findOrder_23 rfl (lv_at hl 2 rfl) ?_
  refine lv_sipush (v := 1000) hx hb dX11_findOrder_24 (by decide) ?_
  refine lv_icmp_ge (tgt := 71) hx hb dX11_findOrder_27 (by decide) (fun c_4 => ?_) (fun c_4 => ?_)
  · replace h := ifp c_4 h
    obtain rfl := Option.some.inj h
    exact hE _ _ _ hS (lv_sub hl [0, 1] rfl)
  · replace h := ifn c_4 h
    refine lv_aload_n hx hb dX11_findOrder_30 rfl (lv_at hl 0 rfl) ?_
    refine r_gR C hS fl_X11_41 rfl rfl rfl dX11_findOrder_31 ?_
    refine lv_sipush (v := 1000) hx hb dX11_findOrder_34 (by decide) ?_
    refine lv_iload_n hx hb dX11_findOrder_37 rfl (lv_at hl 1 rfl) ?_
    refine lv_imul hx hb dX11_findOrder_38 ?_
    refine lv_iload_n hx hb dX11_findOrder_39 rfl (lv_at hl 2 rfl) ?_
    refine lv_iadd hx hb dX11_findOrder_40 ?_
    obtain ⟨b_5, h⟩ := ift h
    refine r_iald C hS rfl rfl b_5 dX11_findOrder_41 ?_
    refine lv_if_lt (tgt := 65) hx hb dX11_findOrder_42 (by decide) (fun c_6 => ?_) (fun c_6 => ?_)
    · replace h := ifp c_6 h
      obtain ⟨x2_7, e_8, h⟩ := olt h
      refine lv_iinc (v := x2_7) (lv' := [(2, .int x2_7), (0, .ref (G.1 + 63)), (1, .int x1)]) hx hb dX11_findOrder_65 hl (k := 2) rfl (by rw [e_8]; rfl) (by decide) rfl (fun ls hl => ?_)
      refine lv_goto (tgt := 23) hx hb dX11_findOrder_68 (by decide) ?_
      obtain rfl := Option.some.inj h
      exact hE _ _ _ hS (lv_sub hl [1, 2, 0] rfl)
    · replace h := ifn c_6 h
      refine lv_aload_n hx hb dX11_findOrder_45 rfl (lv_at hl 0 rfl) ?_
      refine r_gR C hS fl_X11_97 rfl rfl rfl dX11_findOrder_46 ?_
      refine lv_aload_n hx hb dX11_findOrder_49 rfl (lv_at hl 0 rfl) ?_
      refine r_gI C hS fl_X11_256 rfl rfl dX11_findOrder_50 ?_
      refine lv_iload_n hx hb dX11_findOrder_53 rfl (lv_at hl 2 rfl) ?_
      obtain ⟨b_9, h⟩ := ift h
      obtain ⟨M_10, e_11, h⟩ := olt h
      refine r_iast C hS rfl rfl b_9 e_11 dX11_findOrder_54 (fun H locs hS => ?_)
      refine lv_aload_n hx hb dX11_findOrder_55 rfl (lv_at hl 0 rfl) ?_
      refine lv_dup hx hb dX11_findOrder_56 rfl ?_
      refine r_gI C hS fl_X11_256 rfl rfl dX11_findOrder_57 ?_
      refine lv_iconst (v := 1) hx hb dX11_findOrder_60 (by decide) ?_
      refine lv_iadd hx hb dX11_findOrder_61 ?_
      obtain ⟨M_12, e_13, h⟩ := olt h
      refine r_pI C hS fp_X11_256 rfl rfl e_13 dX11_findOrder_62 (fun H locs hS => ?_)
      obtain ⟨x2_14, e_15, h⟩ := olt h
      refine lv_iinc (v := x2_14) (lv' := [(2, .int x2_14), (0, .ref (G.1 + 63)), (1, .int x1)]) hx hb dX11_findOrder_65 hl (k := 2) rfl (by rw [e_15]; rfl) (by decide) rfl (fun ls hl => ?_)
      refine lv_goto (tgt := 23) hx hb dX11_findOrder_68 (by decide) ?_
      obtain rfl := Option.some.inj h
      exact hE _ _ _ hS (lv_sub hl [1, 2, 0] rfl)
def E_Mod_findOrder_75 (G : Gl) (p : Program) (l : Launch) (e : Env) (s : State) (m : MethodId) (args : Array Value) (below : List Frame) (meth : Method) (c : Code) (Q : State → Prop) (x1 : Int32) : Nat → (Int32 × zM) → Prop := fun k (x2, M) => match k with
  | 0 => ∀ (H : Heap) (locs : List Loc) (ls : Array Slot), St G M s H locs → lv_has ls 6 [(0, .ref (G.1 + 63)), (1, .int x1), (2, .int x2)] → W p l e (rmM 2 48) s m args below meth c H locs 0 0 Q (F0 m 75 ls [])
  | 1 => ∀ (H : Heap) (locs : List Loc) (ls : Array Slot), St G M s H locs → lv_has ls 6 [(0, .ref (G.1 + 63)), (1, .int x1)] → W p l e (rmM 2 48) s m args below meth c H locs 0 0 Q (F0 m 172 ls [])
  | _ => True
def E_Mod_findOrder_81 (G : Gl) (p : Program) (l : Launch) (e : Env) (s : State) (m : MethodId) (args : Array Value) (below : List Frame) (meth : Method) (c : Code) (Q : State → Prop) (x1 : Int32) (x2 : Int32) : Nat → (Int32 × zM) → Prop := fun k (x3, M) => match k with
  | 0 => ∀ (H : Heap) (locs : List Loc) (ls : Array Slot), St G M s H locs → lv_has ls 6 [(0, .ref (G.1 + 63)), (1, .int x1), (2, .int x2), (3, .int x3)] → W p l e (rmM 2 48) s m args below meth c H locs 0 0 Q (F0 m 81 ls [])
  | 1 => ∀ (H : Heap) (locs : List Loc) (ls : Array Slot), St G M s H locs → lv_has ls 6 [(0, .ref (G.1 + 63)), (1, .int x1), (2, .int x2)] → W p l e (rmM 2 48) s m args below meth c H locs 0 0 Q (F0 m 165 ls [])
  | _ => True
def E_Mod_findOrder_100 (G : Gl) (p : Program) (l : Launch) (e : Env) (s : State) (m : MethodId) (args : Array Value) (below : List Frame) (meth : Method) (c : Code) (Q : State → Prop) (x1 : Int32) (x2 : Int32) (x3 : Int32) (x4 : Int32) : Nat → (Int32 × zM) → Prop := fun k (x5, M) => match k with
  | 0 => ∀ (H : Heap) (locs : List Loc) (ls : Array Slot), St G M s H locs → lv_has ls 6 [(0, .ref (G.1 + 63)), (1, .int x1), (2, .int x2), (3, .int x3), (4, .int x4), (5, .int x5)] → W p l e (rmM 2 48) s m args below meth c H locs 0 0 Q (F0 m 100 ls [])
  | 1 => ∀ (H : Heap) (locs : List Loc) (ls : Array Slot), St G M s H locs → lv_has ls 6 [(0, .ref (G.1 + 63)), (1, .int x1), (2, .int x2), (3, .int x3), (4, .int x4), (5, .int x5)] → W p l e (rmM 2 48) s m args below meth c H locs 0 0 Q (F0 m 150 ls [])
  | _ => True
set_option maxHeartbeats 4000000 in
set_option maxRecDepth 100000 in
theorem w_Mod_findOrder_B100 {G : Gl} {p : Program} {l : Launch} {e : Env} {s : State} {m : MethodId} {args : Array Value} {below : List Frame} {meth : Method} {c : Code} {Q : State → Prop} (C : Cx G cX11_findOrder 6 RX11 p s m args c) (x1 : Int32) (x2 : Int32) (x3 : Int32) (x4 : Int32) (F : Nat) : ∀ (σ : (Int32 × zM)) (q : Nat × (Int32 × zM)), Mod_findOrder_B100 F x1 x2 x3 x4 σ = some q → (E_Mod_findOrder_100 G p l e s m args below meth c Q x1 x2 x3 x4) q.1 q.2 → (E_Mod_findOrder_100 G p l e s m args below meth c Q x1 x2 x3 x4) 0 σ := by
  intro (x5, M) q h hE H locs ls hS hl
  obtain ⟨hx, hb, -⟩ := id C
  unfold Mod_findOrder_B100 at h
  try dsimp only at h
  refine lv_iload hx hb dX11_findOrder_100 (lv_at hl 5 rfl) ?_
  refine lv_iload_n hx hb dX11_findOrder_102 rfl (lv_at hl 2 rfl) ?_
  refine lv_icmp_lt (tgt := 150) hx hb dX11_findOrder_103 (by decide) (fun c_25 => ?_) (fun c_25 => ?_)
  · replace h := ifp c_25 h
    obtain rfl := Option.some.inj h
    exact hE _ _ _ hS (lv_sub hl [0, 1, 2, 3, 4, 5] rfl)
  · replace h := ifn c_25 h
    refine lv_aload_n hx hb dX11_findOrder_106 rfl (lv_at hl 0 rfl) ?_
    refine lv_iload_n hx hb dX11_findOrder_107 rfl (lv_at hl 1 rfl) ?_
    refine lv_iload hx hb dX11_findOrder_108 (lv_at hl 4 rfl) ?_
    refine lv_aload_n hx hb dX11_findOrder_110 rfl (lv_at hl 0 rfl) ?_
    refine r_gR C hS fl_X11_97 rfl rfl rfl dX11_findOrder_111 ?_
    refine lv_iload hx hb dX11_findOrder_114 (lv_at hl 5 rfl) ?_
    refine lv_iload_n hx hb dX11_findOrder_116 rfl (lv_at hl 2 rfl) ?_
    refine lv_isub hx hb dX11_findOrder_117 ?_
    obtain ⟨b_26, h⟩ := ift h
    refine r_iald C hS rfl rfl b_26 dX11_findOrder_118 ?_
    obtain ⟨⟨r_27, M_28⟩, hq_29, h⟩ := ob h
    try dsimp only at h
    refine r_thenI hS (r_runV C hS hl.1 cv_X11_259 rfl (c_X11_isAhead l G F x1 x4 (M.1 91 (x5 - x2).toNatClampNeg) M  _ hq_29) ⟨by decide, by decide⟩ rfl rfl (Nat.le_of_ble_eq_true rfl) ⟨Nat.zero_le _, Nat.zero_le _⟩ dX11_findOrder_119) (fun H locs hS => ?_)
    refine lv_if_eq (tgt := 150) hx hb dX11_findOrder_122 (by decide) (fun c_30 => ?_) (fun c_30 => ?_)
    · replace h := ifp c_30 h
      obtain rfl := Option.some.inj h
      exact hE _ _ _ hS (lv_sub hl [0, 1, 2, 3, 4, 5] rfl)
    · replace h := ifn c_30 h
      refine lv_aload_n hx hb dX11_findOrder_125 rfl (lv_at hl 0 rfl) ?_
      refine r_gR C hS fl_X11_97 rfl rfl rfl dX11_findOrder_126 ?_
      refine lv_iload hx hb dX11_findOrder_129 (lv_at hl 5 rfl) ?_
      refine lv_aload_n hx hb dX11_findOrder_131 rfl (lv_at hl 0 rfl) ?_
      refine r_gR C hS fl_X11_97 rfl rfl rfl dX11_findOrder_132 ?_
      refine lv_iload hx hb dX11_findOrder_135 (lv_at hl 5 rfl) ?_
      refine lv_iload_n hx hb dX11_findOrder_137 rfl (lv_at hl 2 rfl) ?_
      refine lv_isub hx hb dX11_findOrder_138 ?_
      refine r_iald C hS rfl rfl b_26 dX11_findOrder_139 ?_
      obtain ⟨b_31, h⟩ := ift h
      obtain ⟨M_32, e_33, h⟩ := olt h
      refine r_iast C hS rfl rfl b_31 e_33 dX11_findOrder_140 (fun H locs hS => ?_)
      refine lv_iload hx hb dX11_findOrder_141 (lv_at hl 5 rfl) ?_
      refine lv_iload_n hx hb dX11_findOrder_143 rfl (lv_at hl 2 rfl) ?_
      refine lv_isub hx hb dX11_findOrder_144 ?_
      obtain ⟨x5_34, e_35, h⟩ := olt h
      refine r_nI e_35 ?_
      refine lv_istore (lv' := [(5, .int x5_34), (0, .ref (G.1 + 63)), (1, .int x1), (2, .int x2), (3, .int x3), (4, .int x4)]) hx hb dX11_findOrder_145 hl (by decide) rfl (fun ls hl => ?_)
      refine lv_goto (tgt := 100) hx hb dX11_findOrder_147 (by decide) ?_
      obtain rfl := Option.some.inj h
      exact hE _ _ _ hS (lv_sub hl [1, 2, 3, 4, 5, 0] rfl)
set_option maxHeartbeats 4000000 in
set_option maxRecDepth 100000 in
theorem w_Mod_findOrder_J150 {G : Gl} {p : Program} {l : Launch} {e : Env} {s : State} {m : MethodId} {args : Array Value} {below : List Frame} {meth : Method} {c : Code} {Q : State → Prop} (C : Cx G cX11_findOrder 6 RX11 p s m args c) (x1 : Int32) (x2 : Int32) (F : Nat) (x3 : Int32) (x4 : Int32) (x5 : Int32) (M : zM)  (q : Nat × (Int32 × zM)) (h : Mod_findOrder_J150 F x1 x2 x3 x4 x5 M = some q) (hE : (E_Mod_findOrder_81 G p l e s m args below meth c Q x1 x2) q.1 q.2) (H : Heap) (locs : List Loc) (ls : Array Slot) (hS : St G M s H locs) (hl : lv_has ls 6 [(0, .ref (G.1 + 63)), (1, .int x1), (2, .int x2), (3, .int x3), (4, .int x4), (5, .int x5)]) : W p l e (rmM 2 48) s m args below meth c H locs 0 0 Q (F0 m 150 ls []) := by
  obtain ⟨hx, hb, -⟩ := id C
  unfold Mod_findOrder_J150 at h
  refine lv_aload_n hx hb dX11_findOrder_150 rfl (lv_at hl 0 rfl) ?_
  refine r_gR C hS fl_X11_97 rfl rfl rfl dX11_findOrder_151 ?_
  refine lv_iload hx hb dX11_findOrder_154 (lv_at hl 5 rfl) ?_
  refine lv_iload hx hb dX11_findOrder_156 (lv_at hl 4 rfl) ?_
  obtain ⟨b_40, h⟩ := ift h
  obtain ⟨M_41, e_42, h⟩ := olt h
  refine r_iast C hS rfl rfl b_40 e_42 dX11_findOrder_158 (fun H locs hS => ?_)
  obtain ⟨x3_43, e_44, h⟩ := olt h
  refine lv_iinc (v := x3_43) (lv' := [(3, .int x3_43), (0, .ref (G.1 + 63)), (1, .int x1), (2, .int x2), (4, .int x4), (5, .int x5)]) hx hb dX11_findOrder_159 hl (k := 3) rfl (by rw [e_44]; rfl) (by decide) rfl (fun ls hl => ?_)
  refine lv_goto (tgt := 81) hx hb dX11_findOrder_162 (by decide) ?_
  obtain rfl := Option.some.inj h
  exact hE _ _ _ hS (lv_sub hl [1, 2, 3, 0] rfl)
set_option maxHeartbeats 4000000 in
set_option maxRecDepth 100000 in
theorem w_Mod_findOrder_B81 {G : Gl} {p : Program} {l : Launch} {e : Env} {s : State} {m : MethodId} {args : Array Value} {below : List Frame} {meth : Method} {c : Code} {Q : State → Prop} (C : Cx G cX11_findOrder 6 RX11 p s m args c) (x1 : Int32) (x2 : Int32) (F : Nat) : ∀ (σ : (Int32 × zM)) (q : Nat × (Int32 × zM)), Mod_findOrder_B81 F x1 x2 σ = some q → (E_Mod_findOrder_81 G p l e s m args below meth c Q x1 x2) q.1 q.2 → (E_Mod_findOrder_81 G p l e s m args below meth c Q x1 x2) 0 σ := by
  intro (x3, M) q h hE H locs ls hS hl
  obtain ⟨hx, hb, -⟩ := id C
  unfold Mod_findOrder_B81 at h
  try dsimp only at h
  refine lv_iload_n hx hb dX11_findOrder_81 rfl (lv_at hl 3 rfl) ?_
  refine lv_aload_n hx hb dX11_findOrder_82 rfl (lv_at hl 0 rfl) ?_
  refine r_gI C hS fl_X11_256 rfl rfl dX11_findOrder_83 ?_
  refine lv_icmp_ge (tgt := 165) hx hb dX11_findOrder_86 (by decide) (fun c_21 => ?_) (fun c_21 => ?_)
  · replace h := ifp c_21 h
    obtain rfl := Option.some.inj h
    exact hE _ _ _ hS (lv_sub hl [0, 1, 2] rfl)
  · replace h := ifn c_21 h
    refine lv_aload_n hx hb dX11_findOrder_89 rfl (lv_at hl 0 rfl) ?_
    refine r_gR C hS fl_X11_97 rfl rfl rfl dX11_findOrder_90 ?_
    refine lv_iload_n hx hb dX11_findOrder_93 rfl (lv_at hl 3 rfl) ?_
    obtain ⟨b_22, h⟩ := ift h
    refine r_iald C hS rfl rfl b_22 dX11_findOrder_94 ?_
    obtain ⟨x4_23, e_24, h⟩ := olt h
    refine r_nI e_24 ?_
    refine lv_istore (lv' := [(4, .int x4_23), (0, .ref (G.1 + 63)), (1, .int x1), (2, .int x2), (3, .int x3)]) hx hb dX11_findOrder_95 hl (by decide) rfl (fun ls hl => ?_)
    refine lv_iload_n hx hb dX11_findOrder_97 rfl (lv_at hl 4 rfl) ?_
    refine lv_istore (lv' := [(5, .int x3), (4, .int x4_23), (0, .ref (G.1 + 63)), (1, .int x1), (2, .int x2), (3, .int x3)]) hx hb dX11_findOrder_98 hl (by decide) rfl (fun ls hl => ?_)
    obtain ⟨⟨k_38, x5_36, M_37⟩, hq_39, h⟩ := ob h
    try dsimp only at h
    refine loopW (E := (E_Mod_findOrder_100 G p l e s m _ below meth c _ x1 x2 x3 x4_23)) (w_Mod_findOrder_B100 C x1 x2 x3 x4_23 F) F _ _ hq_39 ?_ _ _ _ hS (lv_sub hl [2, 3, 4, 5, 1, 0] rfl)
    by_cases ek_45 : k_38 = 1
    · replace h := ifp ek_45 h
      subst ek_45
      intro H locs ls hS hl
      exact w_Mod_findOrder_J150 C x1 x2 F x3 x4_23 x5_36 M_37  q h hE _ _ _ hS (lv_sub hl [0, 1, 2, 3, 4, 5] rfl)
    · replace h := ifn ek_45 h
      cases h
set_option maxHeartbeats 4000000 in
set_option maxRecDepth 100000 in
theorem w_Mod_findOrder_B75 {G : Gl} {p : Program} {l : Launch} {e : Env} {s : State} {m : MethodId} {args : Array Value} {below : List Frame} {meth : Method} {c : Code} {Q : State → Prop} (C : Cx G cX11_findOrder 6 RX11 p s m args c) (x1 : Int32) (F : Nat) : ∀ (σ : (Int32 × zM)) (q : Nat × (Int32 × zM)), Mod_findOrder_B75 F x1 σ = some q → (E_Mod_findOrder_75 G p l e s m args below meth c Q x1) q.1 q.2 → (E_Mod_findOrder_75 G p l e s m args below meth c Q x1) 0 σ := by
  intro (x2, M) q h hE H locs ls hS hl
  obtain ⟨hx, hb, -⟩ := id C
  unfold Mod_findOrder_B75 at h
  try dsimp only at h
  refine lv_iload_n hx hb dX11_findOrder_75 rfl (lv_at hl 2 rfl) ?_
  refine lv_if_le (tgt := 172) hx hb dX11_findOrder_76 (by decide) (fun c_20 => ?_) (fun c_20 => ?_)
  · replace h := ifp c_20 h
    obtain rfl := Option.some.inj h
    exact hE _ _ _ hS (lv_sub hl [0, 1] rfl)
  · replace h := ifn c_20 h
    refine lv_iload_n hx hb dX11_findOrder_79 rfl (lv_at hl 2 rfl) ?_
    refine lv_istore_n (lv' := [(3, .int x2), (0, .ref (G.1 + 63)), (1, .int x1), (2, .int x2)]) hx hb dX11_findOrder_80 rfl hl (by decide) rfl (fun ls hl => ?_)
    obtain ⟨⟨k_48, x3_46, M_47⟩, hq_49, h⟩ := ob h
    try dsimp only at h
    refine loopW (E := (E_Mod_findOrder_81 G p l e s m _ below meth c _ x1 x2)) (w_Mod_findOrder_B81 C x1 x2 F) F _ _ hq_49 ?_ _ _ _ hS (lv_sub hl [1, 2, 3, 0] rfl)
    by_cases ek_52 : k_48 = 1
    · replace h := ifp ek_52 h
      subst ek_52
      intro H locs ls hS hl
      refine lv_iload_n hx hb dX11_findOrder_165 rfl (lv_at hl 2 rfl) ?_
      refine lv_iconst (v := 3) hx hb dX11_findOrder_166 (by decide) ?_
      refine lv_idiv hx hb dX11_findOrder_167 (by decide) ?_
      obtain ⟨x2_50, e_51, h⟩ := olt h
      refine r_nI e_51 ?_
      refine lv_istore_n (lv' := [(2, .int x2_50), (0, .ref (G.1 + 63)), (1, .int x1)]) hx hb dX11_findOrder_168 rfl hl (by decide) rfl (fun ls hl => ?_)
      refine lv_goto (tgt := 75) hx hb dX11_findOrder_169 (by decide) ?_
      obtain rfl := Option.some.inj h
      exact hE _ _ _ hS (lv_sub hl [1, 2, 0] rfl)
    · replace h := ifn ek_52 h
      cases h
set_option maxHeartbeats 4000000 in
set_option maxRecDepth 100000 in
theorem w_Mod_findOrder_J16 {G : Gl} {p : Program} {l : Launch} {e : Env} {s : State} {m : MethodId} {args : Array Value} {below : List Frame} {meth : Method} {c : Code} (C : Cx G cX11_findOrder 6 RX11 p s m args c) (hr : meth.sig.returnType = none) (hlk : meth.locks = false) (F : Nat) (x1 : Int32) (M : zM)  (q : Unit × zM) (h : Mod_findOrder_J16 F x1 M = some q) (H : Heap) (locs : List Loc) (ls : Array Slot) (hS : St G M s H locs) (hl : lv_has ls 6 [(0, .ref (G.1 + 63)), (1, .int x1)]) : W p l e (rmM 2 48) s m args below meth c H locs 0 0 (MQ below (PoV G q) args s 0 0 (gA G)) (F0 m 16 ls []) := by
  obtain ⟨hx, hb, -⟩ := id C
  unfold Mod_findOrder_J16 at h
  refine lv_aload_n hx hb dX11_findOrder_16 rfl (lv_at hl 0 rfl) ?_
  refine lv_iconst (v := 0) hx hb dX11_findOrder_17 (by decide) ?_
  obtain ⟨M_2, e_3, h⟩ := olt h
  refine r_pI C hS fp_X11_256 rfl rfl e_3 dX11_findOrder_18 (fun H locs hS => ?_)
  refine lv_iconst (v := 0) hx hb dX11_findOrder_21 (by decide) ?_
  refine lv_istore_n (lv' := [(2, .int 0), (0, .ref (G.1 + 63)), (1, .int x1)]) hx hb dX11_findOrder_22 rfl hl (by decide) rfl (fun ls hl => ?_)
  obtain ⟨⟨k_18, x2_16, M_17⟩, hq_19, h⟩ := ob h
  try dsimp only at h
  refine loopW (E := (E_Mod_findOrder_23 G p l e s m _ below meth c _ x1)) (w_Mod_findOrder_B23 C x1 F) F _ _ hq_19 ?_ _ _ _ hS (lv_sub hl [1, 2, 0] rfl)
  by_cases ek_62 : k_18 = 1
  · replace h := ifp ek_62 h
    subst ek_62
    intro H locs ls hS hl
    refine lv_sipush (v := 364) hx hb dX11_findOrder_71 (by decide) ?_
    refine lv_istore_n (lv' := [(2, .int 364), (0, .ref (G.1 + 63)), (1, .int x1)]) hx hb dX11_findOrder_74 rfl hl (by decide) rfl (fun ls hl => ?_)
    obtain ⟨⟨k_55, x2_53, M_54⟩, hq_56, h⟩ := ob h
    try dsimp only at h
    refine loopW (E := (E_Mod_findOrder_75 G p l e s m _ below meth c _ x1)) (w_Mod_findOrder_B75 C x1 F) F _ _ hq_56 ?_ _ _ _ hS (lv_sub hl [1, 2, 0] rfl)
    by_cases ek_61 : k_55 = 1
    · replace h := ifp ek_61 h
      subst ek_61
      intro H locs ls hS hl
      refine lv_aload_n hx hb dX11_findOrder_172 rfl (lv_at hl 0 rfl) ?_
      refine lv_iconst (v := 1) hx hb dX11_findOrder_173 (by decide) ?_
      obtain ⟨M_57, e_58, h⟩ := olt h
      refine r_put C hS fp_X11_238 rfl (by decide) (by decide) rfl e_58 dX11_findOrder_174 (fun H locs hS => ?_)
      refine lv_aload_n hx hb dX11_findOrder_177 rfl (lv_at hl 0 rfl) ?_
      refine lv_iload_n hx hb dX11_findOrder_178 rfl (lv_at hl 1 rfl) ?_
      obtain ⟨M_59, e_60, h⟩ := olt h
      refine r_pI C hS fp_X11_253 rfl rfl e_60 dX11_findOrder_179 (fun H locs hS => ?_)
      exact r_vret C hS hr hlk h dX11_findOrder_182
    · replace h := ifn ek_61 h
      cases h
  · replace h := ifn ek_62 h
    cases h
set_option maxHeartbeats 4000000 in
set_option maxRecDepth 100000 in
theorem c_X11_findOrder (l : Launch) (G : Gl) (F : Nat) (x1 : Int32) (M : zM)  (q : Unit × zM) (h : Mod_findOrder F x1 M = some q) : Met l yX11_findOrder (wsM yX11_findOrder cX11_findOrder 6 none) (rmM 2 48) (Pre G M [.ref (G.1 + 63), .int x1]) (PoV G q) 0 0 (gA G) := by
  refine r_met (own := RX11) rfl (by decide) (Nat.le_of_ble_eq_true rfl) ?_
  intro p e s m below meth c ls C hr hlk hS hl
  have hl : lv_has ls 6 [(0, .ref (G.1 + 63)), (1, .int x1)] := hl
  obtain ⟨hx, hb, -⟩ := id C
  unfold Mod_findOrder at h
  refine lv_aload_n hx hb dX11_findOrder_0 rfl (lv_at hl 0 rfl) ?_
  refine r_gI C hS fl_X11_238 rfl rfl dX11_findOrder_1 ?_
  refine lv_if_eq (tgt := 16) hx hb dX11_findOrder_4 (by decide) (fun c_1 => ?_) (fun c_1 => ?_)
  · replace h := ifp c_1 h
    exact w_Mod_findOrder_J16 C hr hlk F x1 M  q h _ _ _ hS (lv_sub hl [0, 1] rfl)
  · replace h := ifn c_1 h
    refine lv_aload_n hx hb dX11_findOrder_7 rfl (lv_at hl 0 rfl) ?_
    refine r_gI C hS fl_X11_253 rfl rfl dX11_findOrder_8 ?_
    refine lv_iload_n hx hb dX11_findOrder_11 rfl (lv_at hl 1 rfl) ?_
    refine lv_icmp_ne (tgt := 16) hx hb dX11_findOrder_12 (by decide) (fun c_63 => ?_) (fun c_63 => ?_)
    · replace h := ifn c_63 h
      exact w_Mod_findOrder_J16 C hr hlk F x1 M  q h _ _ _ hS (lv_sub hl [0, 1] rfl)
    · replace h := ifp c_63 h
      exact r_vret C hS hr hlk h dX11_findOrder_15
set_option maxHeartbeats 4000000 in
set_option maxRecDepth 100000 in
theorem c_X11_order (l : Launch) (G : Gl) (F : Nat) (x1 : Int32) (x2 : Int32) (M : zM)  (q : Int32 × zM) (h : Mod_order F x1 x2 M = some q) : Met l yX11_order (wsM yX11_order cX11_order 3 (some .int)) (rmM 3 73) (Pre G M [.ref (G.1 + 63), .int x1, .int x2]) (PoI G q) 0 0 (gA G) := by
  refine r_met (own := RX11) rfl (by decide) (Nat.le_of_ble_eq_true rfl) ?_
  intro p e s m below meth c ls C hr hlk hS hl
  have hl : lv_has ls 3 [(0, .ref (G.1 + 63)), (1, .int x1), (2, .int x2)] := hl
  obtain ⟨hx, hb, -⟩ := id C
  unfold Mod_order at h
  refine lv_iload_n hx hb dX11_order_0 rfl (lv_at hl 1 rfl) ?_
  obtain ⟨⟨r_1, M_2⟩, hq_3, h⟩ := ob h
  try dsimp only at h
  refine r_thenI hS (r_runS C hS hl.1 cs_X11_194 (c_X11_isTongue l G F x1 M  _ hq_3) ⟨by decide, by decide⟩ rfl rfl (Nat.le_of_ble_eq_true rfl) ⟨Nat.zero_le _, Nat.zero_le _⟩ dX11_order_1) (fun H locs hS => ?_)
  refine lv_if_ne (tgt := 11) hx hb dX11_order_4 (by decide) (fun c_4 => ?_) (fun c_4 => ?_)
  · replace h := ifn c_4 h
    refine lv_aload_n hx hb dX11_order_11 rfl (lv_at hl 0 rfl) ?_
    refine lv_iload_n hx hb dX11_order_12 rfl (lv_at hl 1 rfl) ?_
    obtain ⟨⟨_r_5, M_6⟩, hq_7, h⟩ := ob h
    try dsimp only at h
    refine r_thenV hS (r_runV C hS hl.1 cv_X11_262 rfl (c_X11_findOrder l G F x1 M_2  _ hq_7) ⟨by decide, by decide⟩ rfl rfl (Nat.le_of_ble_eq_true rfl) ⟨Nat.zero_le _, Nat.zero_le _⟩ dX11_order_13) (fun H locs hS => ?_)
    refine lv_iload_n hx hb dX11_order_16 rfl (lv_at hl 2 rfl) ?_
    refine lv_i2l (v := x2.toInt64) hx hb dX11_order_17 rfl ?_
    refine lv_lconst (v := 0) hx hb dX11_order_18 (by decide) ?_
    refine lv_aload_n hx hb dX11_order_19 rfl (lv_at hl 0 rfl) ?_
    refine r_gI C hS fl_X11_256 rfl rfl dX11_order_20 ?_
    refine lv_iconst (v := 1) hx hb dX11_order_23 (by decide) ?_
    refine lv_isub hx hb dX11_order_24 ?_
    refine lv_i2l (v := ((M_6.1 63 37) - 1).toInt64) hx hb dX11_order_25 rfl ?_
    obtain ⟨⟨r_8, M_9⟩, hq_10, h⟩ := ob h
    try dsimp only at h
    refine r_thenI hS (r_runS C hS hl.1 cs_X11_123 (c_X11_in l G F x2.toInt64 0 (((M_6.1 63 37) - 1).toInt64) M_6  _ hq_10) ⟨by decide, by decide⟩ rfl rfl (Nat.le_of_ble_eq_true rfl) ⟨Nat.zero_le _, Nat.zero_le _⟩ dX11_order_26) (fun H locs hS => ?_)
    refine lv_if_eq (tgt := 41) hx hb dX11_order_29 (by decide) (fun c_11 => ?_) (fun c_11 => ?_)
    · replace h := ifp c_11 h
      refine lv_iconst (v := (-1)) hx hb dX11_order_41 (by decide) ?_
      exact r_iret C hS hr hlk h dX11_order_42
    · replace h := ifn c_11 h
      refine lv_aload_n hx hb dX11_order_32 rfl (lv_at hl 0 rfl) ?_
      refine r_gR C hS fl_X11_97 rfl rfl rfl dX11_order_33 ?_
      refine lv_iload_n hx hb dX11_order_36 rfl (lv_at hl 2 rfl) ?_
      obtain ⟨b_12, h⟩ := ift h
      refine r_iald C hS rfl rfl b_12 dX11_order_37 ?_
      refine lv_goto (tgt := 42) hx hb dX11_order_38 (by decide) ?_
      exact r_iret C hS hr hlk h dX11_order_42
  · replace h := ifp c_4 h
    refine lv_sipush (v := (-1001)) hx hb dX11_order_7 (by decide) ?_
    exact r_iret C hS hr hlk h dX11_order_10
def E_Mod_place_25 (G : Gl) (p : Program) (l : Launch) (e : Env) (s : State) (m : MethodId) (args : Array Value) (below : List Frame) (meth : Method) (c : Code) (Q : State → Prop) (x2 : Int32) : Nat → (Int32 × zM) → Prop := fun k (x3, M) => match k with
  | 0 => ∀ (H : Heap) (locs : List Loc) (ls : Array Slot), St G M s H locs → lv_has ls 4 [(0, .ref (G.1 + 63)), (2, .int x2), (3, .int x3)] → W p l e (rmM 3 73) s m args below meth c H locs 0 0 Q (F0 m 25 ls [])
  | 1 => ∀ (H : Heap) (locs : List Loc) (ls : Array Slot), St G M s H locs → lv_has ls 4 [(3, .int x3)] → W p l e (rmM 3 73) s m args below meth c H locs 0 0 Q (F0 m 43 ls [])
  | 2 => ∀ (H : Heap) (locs : List Loc) (ls : Array Slot), St G M s H locs → lv_has ls 4 [] → W p l e (rmM 3 73) s m args below meth c H locs 0 0 Q (F0 m 51 ls [])
  | _ => True
set_option maxHeartbeats 4000000 in
set_option maxRecDepth 100000 in
theorem w_Mod_place_B25 {G : Gl} {p : Program} {l : Launch} {e : Env} {s : State} {m : MethodId} {args : Array Value} {below : List Frame} {meth : Method} {c : Code} {Q : State → Prop} (C : Cx G cX11_place 4 RX11 p s m args c) (x2 : Int32) (F : Nat) : ∀ (σ : (Int32 × zM)) (q : Nat × (Int32 × zM)), Mod_place_B25 F x2 σ = some q → (E_Mod_place_25 G p l e s m args below meth c Q x2) q.1 q.2 → (E_Mod_place_25 G p l e s m args below meth c Q x2) 0 σ := by
  intro (x3, M) q h hE H locs ls hS hl
  obtain ⟨hx, hb, -⟩ := id C
  unfold Mod_place_B25 at h
  try dsimp only at h
  refine lv_iload_n hx hb dX11_place_25 rfl (lv_at hl 2 rfl) ?_
  refine lv_aload_n hx hb dX11_place_26 rfl (lv_at hl 0 rfl) ?_
  refine r_gI C hS fl_X11_256 rfl rfl dX11_place_27 ?_
  refine lv_icmp_ge (tgt := 51) hx hb dX11_place_30 (by decide) (fun c_12 => ?_) (fun c_12 => ?_)
  · replace h := ifp c_12 h
    obtain rfl := Option.some.inj h
    exact hE _ _ _ hS (lv_sub hl [] rfl)
  · replace h := ifn c_12 h
    refine lv_aload_n hx hb dX11_place_33 rfl (lv_at hl 0 rfl) ?_
    refine r_gR C hS fl_X11_97 rfl rfl rfl dX11_place_34 ?_
    refine lv_iload_n hx hb dX11_place_37 rfl (lv_at hl 2 rfl) ?_
    obtain ⟨b_13, h⟩ := ift h
    refine r_iald C hS rfl rfl b_13 dX11_place_38 ?_
    refine lv_iload_n hx hb dX11_place_39 rfl (lv_at hl 1 rfl) ?_
    refine lv_icmp_ne (tgt := 45) hx hb dX11_place_40 (by decide) (fun c_14 => ?_) (fun c_14 => ?_)
    · replace h := ifn c_14 h
      obtain ⟨x3_15, e_16, h⟩ := olt h
      refine lv_iinc (v := x3_15) (lv' := [(3, .int x3_15), (0, .ref (G.1 + 63)), (2, .int x2)]) hx hb dX11_place_45 hl (k := 2) rfl (by rw [e_16]; rfl) (by decide) rfl (fun ls hl => ?_)
      refine lv_goto (tgt := 25) hx hb dX11_place_48 (by decide) ?_
      obtain rfl := Option.some.inj h
      exact hE _ _ _ hS (lv_sub hl [1, 2, 0] rfl)
    · replace h := ifp c_14 h
      obtain rfl := Option.some.inj h
      exact hE _ _ _ hS (lv_sub hl [2] rfl)
set_option maxHeartbeats 4000000 in
set_option maxRecDepth 100000 in
theorem c_X11_place (l : Launch) (G : Gl) (F : Nat) (x1 : Int32) (x2 : Int32) (M : zM)  (q : Int32 × zM) (h : Mod_place F x1 x2 M = some q) : Met l yX11_place (wsM yX11_place cX11_place 4 (some .int)) (rmM 3 73) (Pre G M [.ref (G.1 + 63), .int x1, .int x2]) (PoI G q) 0 0 (gA G) := by
  refine r_met (own := RX11) rfl (by decide) (Nat.le_of_ble_eq_true rfl) ?_
  intro p e s m below meth c ls C hr hlk hS hl
  have hl : lv_has ls 4 [(0, .ref (G.1 + 63)), (1, .int x1), (2, .int x2)] := hl
  obtain ⟨hx, hb, -⟩ := id C
  unfold Mod_place at h
  refine lv_iload_n hx hb dX11_place_0 rfl (lv_at hl 1 rfl) ?_
  obtain ⟨⟨r_1, M_2⟩, hq_3, h⟩ := ob h
  try dsimp only at h
  refine r_thenI hS (r_runS C hS hl.1 cs_X11_194 (c_X11_isTongue l G F x1 M  _ hq_3) ⟨by decide, by decide⟩ rfl rfl (Nat.le_of_ble_eq_true rfl) ⟨Nat.zero_le _, Nat.zero_le _⟩ dX11_place_1) (fun H locs hS => ?_)
  refine lv_if_eq (tgt := 14) hx hb dX11_place_4 (by decide) (fun c_4 => ?_) (fun c_4 => ?_)
  · replace h := ifp c_4 h
    refine lv_sipush (v := (-1001)) hx hb dX11_place_14 (by decide) ?_
    exact r_iret C hS hr hlk h dX11_place_17
  · replace h := ifn c_4 h
    refine lv_iload_n hx hb dX11_place_7 rfl (lv_at hl 2 rfl) ?_
    obtain ⟨⟨r_5, M_6⟩, hq_7, h⟩ := ob h
    try dsimp only at h
    refine r_thenI hS (r_runS C hS hl.1 cs_X11_216 (c_X11_isNumber l G F x2 M_2  _ hq_7) ⟨by decide, by decide⟩ rfl rfl (Nat.le_of_ble_eq_true rfl) ⟨Nat.zero_le _, Nat.zero_le _⟩ dX11_place_8) (fun H locs hS => ?_)
    refine lv_if_ne (tgt := 18) hx hb dX11_place_11 (by decide) (fun c_8 => ?_) (fun c_8 => ?_)
    · replace h := ifn c_8 h
      refine lv_aload_n hx hb dX11_place_18 rfl (lv_at hl 0 rfl) ?_
      refine lv_iload_n hx hb dX11_place_19 rfl (lv_at hl 1 rfl) ?_
      obtain ⟨⟨_r_9, M_10⟩, hq_11, h⟩ := ob h
      try dsimp only at h
      refine r_thenV hS (r_runV C hS hl.1 cv_X11_262 rfl (c_X11_findOrder l G F x1 M_6  _ hq_11) ⟨by decide, by decide⟩ rfl rfl (Nat.le_of_ble_eq_true rfl) ⟨Nat.zero_le _, Nat.zero_le _⟩ dX11_place_20) (fun H locs hS => ?_)
      refine lv_iconst (v := 0) hx hb dX11_place_23 (by decide) ?_
      refine lv_istore_n (lv' := [(3, .int 0), (0, .ref (G.1 + 63)), (1, .int x1), (2, .int x2)]) hx hb dX11_place_24 rfl hl (by decide) rfl (fun ls hl => ?_)
      obtain ⟨⟨k_19, x3_17, M_18⟩, hq_20, h⟩ := ob h
      try dsimp only at h
      refine loopW (E := (E_Mod_place_25 G p l e s m _ below meth c _ x2)) (w_Mod_place_B25 C x2 F) F _ _ hq_20 ?_ _ _ _ hS (lv_sub hl [1, 3, 0] rfl)
      by_cases ek_22 : k_19 = 1
      · replace h := ifp ek_22 h
        subst ek_22
        intro H locs ls hS hl
        refine lv_iload_n hx hb dX11_place_43 rfl (lv_at hl 0 rfl) ?_
        exact r_iret C hS hr hlk h dX11_place_44
      · replace h := ifn ek_22 h
        by_cases ek_21 : k_19 = 2
        · replace h := ifp ek_21 h
          subst ek_21
          intro H locs ls hS hl
          refine lv_iconst (v := (-1)) hx hb dX11_place_51 (by decide) ?_
          exact r_iret C hS hr hlk h dX11_place_52
        · replace h := ifn ek_21 h
          cases h
    · replace h := ifp c_8 h
      refine lv_sipush (v := (-1001)) hx hb dX11_place_14 (by decide) ?_
      exact r_iret C hS hr hlk h dX11_place_17
def E_Mod_runOf_15 (G : Gl) (p : Program) (l : Launch) (e : Env) (s : State) (m : MethodId) (args : Array Value) (below : List Frame) (meth : Method) (c : Code) (Q : State → Prop) (a3 : Nat) (x4 : Int32) : Nat → (Int32 × Int32 × zM) → Prop := fun k (x5, x6, M) => match k with
  | 0 => ∀ (H : Heap) (locs : List Loc) (ls : Array Slot), St G M s H locs → lv_has ls 8 [(0, .ref (G.1 + 63)), (3, .ref (G.1 + a3)), (4, .int x4), (5, .int x5), (6, .int x6)] → W p l e (rmM 1 22) s m args below meth c H locs 0 0 Q (F0 m 15 ls [])
  | 1 => ∀ (H : Heap) (locs : List Loc) (ls : Array Slot), St G M s H locs → lv_has ls 8 [(5, .int x5)] → W p l e (rmM 1 22) s m args below meth c H locs 0 0 Q (F0 m 59 ls [])
  | _ => True
set_option maxHeartbeats 4000000 in
set_option maxRecDepth 100000 in
theorem w_Mod_runOf_B15 {G : Gl} {p : Program} {l : Launch} {e : Env} {s : State} {m : MethodId} {args : Array Value} {below : List Frame} {meth : Method} {c : Code} {Q : State → Prop} (C : Cx G cX11_runOf 8 RX11 p s m args c) (a3 : Nat) (x4 : Int32) (k3 : zK a3 = 12) (F : Nat) : ∀ (σ : (Int32 × Int32 × zM)) (q : Nat × (Int32 × Int32 × zM)), Mod_runOf_B15 F a3 x4 σ = some q → (E_Mod_runOf_15 G p l e s m args below meth c Q a3 x4) q.1 q.2 → (E_Mod_runOf_15 G p l e s m args below meth c Q a3 x4) 0 σ := by
  intro (x5, x6, M) q h hE H locs ls hS hl
  obtain ⟨hx, hb, -⟩ := id C
  unfold Mod_runOf_B15 at h
  try dsimp only at h
  refine lv_iload hx hb dX11_runOf_15 (lv_at hl 4 rfl) ?_
  refine lv_aload_n hx hb dX11_runOf_17 rfl (lv_at hl 0 rfl) ?_
  refine r_gR C hS fl_X11_41 rfl rfl rfl dX11_runOf_18 ?_
  refine lv_iload hx hb dX11_runOf_21 (lv_at hl 2 rfl) ?_
  obtain ⟨b_3, h⟩ := ift h
  refine r_iald C hS rfl rfl b_3 dX11_runOf_23 ?_
  refine lv_icmp_ge (tgt := 59) hx hb dX11_runOf_24 (by decide) (fun c_4 => ?_) (fun c_4 => ?_)
  · replace h := ifp c_4 h
    obtain rfl := Option.some.inj h
    exact hE _ _ _ hS (lv_sub hl [3] rfl)
  · replace h := ifn c_4 h
    refine lv_aload_n hx hb dX11_runOf_27 rfl (lv_at hl 0 rfl) ?_
    refine lv_iload hx hb dX11_runOf_28 (lv_at hl 2 rfl) ?_
    refine lv_iload hx hb dX11_runOf_30 (lv_at hl 4 rfl) ?_
    obtain ⟨⟨r_5, M_6⟩, hq_7, h⟩ := ob h
    try dsimp only at h
    refine r_thenI hS (r_runV C hS hl.1 cv_X11_222 rfl (c_X11_byteOf l G F x4 x6 M  _ hq_7) ⟨by decide, by decide⟩ rfl rfl (Nat.le_of_ble_eq_true rfl) ⟨Nat.zero_le _, Nat.zero_le _⟩ dX11_runOf_32) (fun H locs hS => ?_)
    refine lv_istore (lv' := [(7, .int r_5), (0, .ref (G.1 + 63)), (3, .ref (G.1 + a3)), (4, .int x4), (5, .int x5), (6, .int x6)]) hx hb dX11_runOf_35 hl (by decide) rfl (fun ls hl => ?_)
    refine lv_iload hx hb dX11_runOf_37 (lv_at hl 0 rfl) ?_
    refine lv_bipush (v := 32) hx hb dX11_runOf_39 (by decide) ?_
    refine lv_icmp_eq (tgt := 53) hx hb dX11_runOf_41 (by decide) (fun c_8 => ?_) (fun c_8 => ?_)
    · replace h := ifp c_8 h
      obtain ⟨x6_9, e_10, h⟩ := olt h
      refine lv_iinc (v := x6_9) (lv' := [(6, .int x6_9), (7, .int r_5), (0, .ref (G.1 + 63)), (3, .ref (G.1 + a3)), (4, .int x4), (5, .int x5)]) hx hb dX11_runOf_53 hl (k := 5) rfl (by rw [e_10]; rfl) (by decide) rfl (fun ls hl => ?_)
      refine lv_goto (tgt := 15) hx hb dX11_runOf_56 (by decide) ?_
      obtain rfl := Option.some.inj h
      exact hE _ _ _ hS (lv_sub hl [2, 3, 4, 5, 0] rfl)
    · replace h := ifn c_8 h
      refine lv_aload_n hx hb dX11_runOf_44 rfl (lv_at hl 2 rfl) ?_
      refine lv_iload hx hb dX11_runOf_45 (lv_at hl 4 rfl) ?_
      refine lv_iload hx hb dX11_runOf_47 (lv_at hl 0 rfl) ?_
      obtain ⟨b_11, h⟩ := ift h
      obtain ⟨M_12, e_13, h⟩ := olt h
      refine r_iast C hS k3 rfl b_11 e_13 dX11_runOf_49 (fun H locs hS => ?_)
      obtain ⟨x5_14, e_15, h⟩ := olt h
      refine lv_iinc (v := x5_14) (lv' := [(5, .int x5_14), (7, .int r_5), (0, .ref (G.1 + 63)), (3, .ref (G.1 + a3)), (4, .int x4), (6, .int x6)]) hx hb dX11_runOf_50 hl (k := 4) rfl (by rw [e_15]; rfl) (by decide) rfl (fun ls hl => ?_)
      obtain ⟨x6_16, e_17, h⟩ := olt h
      refine lv_iinc (v := x6_16) (lv' := [(6, .int x6_16), (5, .int x5_14), (7, .int r_5), (0, .ref (G.1 + 63)), (3, .ref (G.1 + a3)), (4, .int x4)]) hx hb dX11_runOf_53 hl (k := 5) rfl (by rw [e_17]; rfl) (by decide) rfl (fun ls hl => ?_)
      refine lv_goto (tgt := 15) hx hb dX11_runOf_56 (by decide) ?_
      obtain rfl := Option.some.inj h
      exact hE _ _ _ hS (lv_sub hl [3, 4, 5, 1, 0] rfl)
set_option maxHeartbeats 4000000 in
set_option maxRecDepth 100000 in
theorem c_X11_runOf (l : Launch) (G : Gl) (F : Nat) (x1 : Int32) (x2 : Int32) (a3 : Nat) (M : zM) (k3 : zK a3 = 12) (q : Int32 × zM) (h : Mod_runOf F x1 x2 a3 M = some q) : Met l yX11_runOf (wsM yX11_runOf cX11_runOf 8 (some .int)) (rmM 1 22) (Pre G M [.ref (G.1 + 63), .int x1, .int x2, .ref (G.1 + a3)]) (PoI G q) 0 0 (gA G) := by
  refine r_met (own := RX11) rfl (by decide) (Nat.le_of_ble_eq_true rfl) ?_
  intro p e s m below meth c ls C hr hlk hS hl
  have hl : lv_has ls 8 [(0, .ref (G.1 + 63)), (1, .int x1), (2, .int x2), (3, .ref (G.1 + a3))] := hl
  obtain ⟨hx, hb, -⟩ := id C
  unfold Mod_runOf at h
  refine lv_sipush (v := 1000) hx hb dX11_runOf_0 (by decide) ?_
  refine lv_iload_n hx hb dX11_runOf_3 rfl (lv_at hl 1 rfl) ?_
  refine lv_imul hx hb dX11_runOf_4 ?_
  refine lv_iload_n hx hb dX11_runOf_5 rfl (lv_at hl 2 rfl) ?_
  refine lv_iadd hx hb dX11_runOf_6 ?_
  obtain ⟨x4_1, e_2, h⟩ := olt h
  refine r_nI e_2 ?_
  refine lv_istore (lv' := [(4, .int x4_1), (0, .ref (G.1 + 63)), (1, .int x1), (2, .int x2), (3, .ref (G.1 + a3))]) hx hb dX11_runOf_7 hl (by decide) rfl (fun ls hl => ?_)
  refine lv_iconst (v := 0) hx hb dX11_runOf_9 (by decide) ?_
  refine lv_istore (lv' := [(5, .int 0), (4, .int x4_1), (0, .ref (G.1 + 63)), (1, .int x1), (2, .int x2), (3, .ref (G.1 + a3))]) hx hb dX11_runOf_10 hl (by decide) rfl (fun ls hl => ?_)
  refine lv_iconst (v := 0) hx hb dX11_runOf_12 (by decide) ?_
  refine lv_istore (lv' := [(6, .int 0), (5, .int 0), (4, .int x4_1), (0, .ref (G.1 + 63)), (1, .int x1), (2, .int x2), (3, .ref (G.1 + a3))]) hx hb dX11_runOf_13 hl (by decide) rfl (fun ls hl => ?_)
  obtain ⟨⟨k_21, x5_18, x6_19, M_20⟩, hq_22, h⟩ := ob h
  try dsimp only at h
  refine loopW (E := (E_Mod_runOf_15 G p l e s m _ below meth c _ a3 x4_1)) (w_Mod_runOf_B15 C a3 x4_1 k3 F) F _ _ hq_22 ?_ _ _ _ hS (lv_sub hl [3, 6, 2, 1, 0] rfl)
  by_cases ek_23 : k_21 = 1
  · replace h := ifp ek_23 h
    subst ek_23
    intro H locs ls hS hl
    refine lv_iload hx hb dX11_runOf_59 (lv_at hl 0 rfl) ?_
    exact r_iret C hS hr hlk h dX11_runOf_61
  · replace h := ifn ek_23 h
    cases h
def E_Mod_findMixes_2 (G : Gl) (p : Program) (l : Launch) (e : Env) (s : State) (m : MethodId) (args : Array Value) (below : List Frame) (meth : Method) (c : Code) (Q : State → Prop) (x1 : Int32) : Nat → (Int32 × zM) → Prop := fun k (x2, M) => match k with
  | 0 => ∀ (H : Heap) (locs : List Loc) (ls : Array Slot), St G M s H locs → lv_has ls 7 [(0, .ref (G.1 + 63)), (1, .int x1), (2, .int x2)] → W p l e (rmM 2 49) s m args below meth c H locs 0 0 Q (F0 m 2 ls [])
  | 1 => ∀ (H : Heap) (locs : List Loc) (ls : Array Slot), St G M s H locs → lv_has ls 7 [] → W p l e (rmM 2 49) s m args below meth c H locs 0 0 Q (F0 m 70 ls [])
  | _ => True
def E_Mod_findMixes_27 (G : Gl) (p : Program) (l : Launch) (e : Env) (s : State) (m : MethodId) (args : Array Value) (below : List Frame) (meth : Method) (c : Code) (Q : State → Prop) (x1 : Int32) (x2 : Int32) (x3 : Int32) : Nat → (Int64 × Int32 × zM) → Prop := fun k (x4, x6, M) => match k with
  | 0 => ∀ (H : Heap) (locs : List Loc) (ls : Array Slot), St G M s H locs → lv_has ls 7 [(0, .ref (G.1 + 63)), (1, .int x1), (2, .int x2), (3, .int x3), (4, .long x4), (6, .int x6)] → W p l e (rmM 2 49) s m args below meth c H locs 0 0 Q (F0 m 27 ls [])
  | 1 => ∀ (H : Heap) (locs : List Loc) (ls : Array Slot), St G M s H locs → lv_has ls 7 [(0, .ref (G.1 + 63)), (1, .int x1), (2, .int x2), (4, .long x4)] → W p l e (rmM 2 49) s m args below meth c H locs 0 0 Q (F0 m 56 ls [])
  | _ => True
set_option maxHeartbeats 4000000 in
set_option maxRecDepth 100000 in
theorem w_Mod_findMixes_B27 {G : Gl} {p : Program} {l : Launch} {e : Env} {s : State} {m : MethodId} {args : Array Value} {below : List Frame} {meth : Method} {c : Code} {Q : State → Prop} (C : Cx G cX11_findMixes 7 RX11 p s m args c) (x1 : Int32) (x2 : Int32) (x3 : Int32) (F : Nat) : ∀ (σ : (Int64 × Int32 × zM)) (q : Nat × (Int64 × Int32 × zM)), Mod_findMixes_B27 F x1 x2 x3 σ = some q → (E_Mod_findMixes_27 G p l e s m args below meth c Q x1 x2 x3) q.1 q.2 → (E_Mod_findMixes_27 G p l e s m args below meth c Q x1 x2 x3) 0 σ := by
  intro (x4, x6, M) q h hE H locs ls hS hl
  obtain ⟨hx, hb, -⟩ := id C
  unfold Mod_findMixes_B27 at h
  try dsimp only at h
  refine lv_iload hx hb dX11_findMixes_27 (lv_at hl 5 rfl) ?_
  refine lv_iload_n hx hb dX11_findMixes_29 rfl (lv_at hl 3 rfl) ?_
  refine lv_icmp_ge (tgt := 56) hx hb dX11_findMixes_30 (by decide) (fun c_7 => ?_) (fun c_7 => ?_)
  · replace h := ifp c_7 h
    obtain rfl := Option.some.inj h
    exact hE _ _ _ hS (lv_sub hl [0, 1, 2, 4] rfl)
  · replace h := ifn c_7 h
    refine lv_lload hx hb dX11_findMixes_33 (lv_at hl 4 rfl) ?_
    refine lv_ldc2 hx hb C.2.2.2.1 (C.2.2.2.2.1 _ tw_1211) dX11_findMixes_35 ?_
    refine lv_lmul hx hb dX11_findMixes_38 ?_
    refine lv_aload_n hx hb dX11_findMixes_39 rfl (lv_at hl 0 rfl) ?_
    refine r_gR C hS fl_X11_100 rfl rfl rfl dX11_findMixes_40 ?_
    refine lv_iload hx hb dX11_findMixes_43 (lv_at hl 5 rfl) ?_
    obtain ⟨b_8, h⟩ := ift h
    refine r_iald C hS rfl rfl b_8 dX11_findMixes_45 ?_
    refine lv_i2l (v := (M.1 92 x6.toNatClampNeg).toInt64) hx hb dX11_findMixes_46 rfl ?_
    refine lv_ladd hx hb dX11_findMixes_47 ?_
    obtain ⟨x4_9, e_10, h⟩ := olt h
    refine r_nL e_10 ?_
    refine lv_lstore (lv' := [(4, .long x4_9), (0, .ref (G.1 + 63)), (1, .int x1), (2, .int x2), (3, .int x3), (6, .int x6)]) hx hb dX11_findMixes_48 hl (by decide) rfl (fun ls hl => ?_)
    obtain ⟨x6_11, e_12, h⟩ := olt h
    refine lv_iinc (v := x6_11) (lv' := [(6, .int x6_11), (4, .long x4_9), (0, .ref (G.1 + 63)), (1, .int x1), (2, .int x2), (3, .int x3)]) hx hb dX11_findMixes_50 hl (k := 5) rfl (by rw [e_12]; rfl) (by decide) rfl (fun ls hl => ?_)
    refine lv_goto (tgt := 27) hx hb dX11_findMixes_53 (by decide) ?_
    obtain rfl := Option.some.inj h
    exact hE _ _ _ hS (lv_sub hl [2, 3, 4, 5, 1, 0] rfl)
set_option maxHeartbeats 4000000 in
set_option maxRecDepth 100000 in
theorem w_Mod_findMixes_B2 {G : Gl} {p : Program} {l : Launch} {e : Env} {s : State} {m : MethodId} {args : Array Value} {below : List Frame} {meth : Method} {c : Code} {Q : State → Prop} (C : Cx G cX11_findMixes 7 RX11 p s m args c) (x1 : Int32) (F : Nat) : ∀ (σ : (Int32 × zM)) (q : Nat × (Int32 × zM)), Mod_findMixes_B2 F x1 σ = some q → (E_Mod_findMixes_2 G p l e s m args below meth c Q x1) q.1 q.2 → (E_Mod_findMixes_2 G p l e s m args below meth c Q x1) 0 σ := by
  intro (x2, M) q h hE H locs ls hS hl
  obtain ⟨hx, hb, -⟩ := id C
  unfold Mod_findMixes_B2 at h
  try dsimp only at h
  refine lv_iload_n hx hb dX11_findMixes_2 rfl (lv_at hl 2 rfl) ?_
  refine lv_sipush (v := 1000) hx hb dX11_findMixes_3 (by decide) ?_
  refine lv_icmp_ge (tgt := 70) hx hb dX11_findMixes_6 (by decide) (fun c_1 => ?_) (fun c_1 => ?_)
  · replace h := ifp c_1 h
    obtain rfl := Option.some.inj h
    exact hE _ _ _ hS (lv_sub hl [] rfl)
  · replace h := ifn c_1 h
    refine lv_aload_n hx hb dX11_findMixes_9 rfl (lv_at hl 0 rfl) ?_
    refine lv_iload_n hx hb dX11_findMixes_10 rfl (lv_at hl 1 rfl) ?_
    refine lv_iload_n hx hb dX11_findMixes_11 rfl (lv_at hl 2 rfl) ?_
    refine lv_aload_n hx hb dX11_findMixes_12 rfl (lv_at hl 0 rfl) ?_
    refine r_gR C hS fl_X11_100 rfl rfl rfl dX11_findMixes_13 ?_
    obtain ⟨⟨r_2, M_3⟩, hq_4, h⟩ := ob h
    try dsimp only at h
    refine r_thenI hS (r_runV C hS hl.1 cv_X11_265 rfl (c_X11_runOf l G F x1 x2 92 M rfl _ hq_4) ⟨by decide, by decide⟩ rfl rfl (Nat.le_of_ble_eq_true rfl) ⟨Nat.zero_le _, Nat.zero_le _⟩ dX11_findMixes_16) (fun H locs hS => ?_)
    refine lv_istore_n (lv' := [(3, .int r_2), (0, .ref (G.1 + 63)), (1, .int x1), (2, .int x2)]) hx hb dX11_findMixes_19 rfl hl (by decide) rfl (fun ls hl => ?_)
    refine lv_iload_n hx hb dX11_findMixes_20 rfl (lv_at hl 0 rfl) ?_
    refine lv_i2l (v := r_2.toInt64) hx hb dX11_findMixes_21 rfl ?_
    obtain ⟨x4_5, e_6, h⟩ := olt h
    refine r_nL e_6 ?_
    refine lv_lstore (lv' := [(4, .long x4_5), (3, .int r_2), (0, .ref (G.1 + 63)), (1, .int x1), (2, .int x2)]) hx hb dX11_findMixes_22 hl (by decide) rfl (fun ls hl => ?_)
    refine lv_iconst (v := 0) hx hb dX11_findMixes_24 (by decide) ?_
    refine lv_istore (lv' := [(6, .int 0), (4, .long x4_5), (3, .int r_2), (0, .ref (G.1 + 63)), (1, .int x1), (2, .int x2)]) hx hb dX11_findMixes_25 hl (by decide) rfl (fun ls hl => ?_)
    obtain ⟨⟨k_16, x4_13, x6_14, M_15⟩, hq_17, h⟩ := ob h
    try dsimp only at h
    refine loopW (E := (E_Mod_findMixes_27 G p l e s m _ below meth c _ x1 x2 r_2)) (w_Mod_findMixes_B27 C x1 x2 r_2 F) F _ _ hq_17 ?_ _ _ _ hS (lv_sub hl [3, 4, 5, 2, 1, 0] rfl)
    by_cases ek_23 : k_16 = 1
    · replace h := ifp ek_23 h
      subst ek_23
      intro H locs ls hS hl
      refine lv_aload_n hx hb dX11_findMixes_56 rfl (lv_at hl 0 rfl) ?_
      refine r_gR C hS fl_X11_106 rfl rfl rfl dX11_findMixes_57 ?_
      refine lv_iload_n hx hb dX11_findMixes_60 rfl (lv_at hl 2 rfl) ?_
      refine lv_lload hx hb dX11_findMixes_61 (lv_at hl 3 rfl) ?_
      obtain ⟨b_18, h⟩ := ift h
      obtain ⟨M_19, e_20, h⟩ := olt h
      refine r_last C hS rfl rfl b_18 e_20 dX11_findMixes_63 (fun H locs hS => ?_)
      obtain ⟨x2_21, e_22, h⟩ := olt h
      refine lv_iinc (v := x2_21) (lv' := [(2, .int x2_21), (0, .ref (G.1 + 63)), (1, .int x1), (4, .long x4_13)]) hx hb dX11_findMixes_64 hl (k := 2) rfl (by rw [e_22]; rfl) (by decide) rfl (fun ls hl => ?_)
      refine lv_goto (tgt := 2) hx hb dX11_findMixes_67 (by decide) ?_
      obtain rfl := Option.some.inj h
      exact hE _ _ _ hS (lv_sub hl [1, 2, 0] rfl)
    · replace h := ifn ek_23 h
      cases h
set_option maxHeartbeats 4000000 in
set_option maxRecDepth 100000 in
theorem c_X11_findMixes (l : Launch) (G : Gl) (F : Nat) (x1 : Int32) (M : zM)  (q : Unit × zM) (h : Mod_findMixes F x1 M = some q) : Met l yX11_findMixes (wsM yX11_findMixes cX11_findMixes 7 none) (rmM 2 49) (Pre G M [.ref (G.1 + 63), .int x1]) (PoV G q) 0 0 (gA G) := by
  refine r_met (own := RX11) rfl (by decide) (Nat.le_of_ble_eq_true rfl) ?_
  intro p e s m below meth c ls C hr hlk hS hl
  have hl : lv_has ls 7 [(0, .ref (G.1 + 63)), (1, .int x1)] := hl
  obtain ⟨hx, hb, -⟩ := id C
  unfold Mod_findMixes at h
  refine lv_iconst (v := 0) hx hb dX11_findMixes_0 (by decide) ?_
  refine lv_istore_n (lv' := [(2, .int 0), (0, .ref (G.1 + 63)), (1, .int x1)]) hx hb dX11_findMixes_1 rfl hl (by decide) rfl (fun ls hl => ?_)
  obtain ⟨⟨k_26, x2_24, M_25⟩, hq_27, h⟩ := ob h
  try dsimp only at h
  refine loopW (E := (E_Mod_findMixes_2 G p l e s m _ below meth c _ x1)) (w_Mod_findMixes_B2 C x1 F) F _ _ hq_27 ?_ _ _ _ hS (lv_sub hl [1, 2, 0] rfl)
  by_cases ek_28 : k_26 = 1
  · replace h := ifp ek_28 h
    subst ek_28
    intro H locs ls hS hl
    exact r_vret C hS hr hlk h dX11_findMixes_70
  · replace h := ifn ek_28 h
    cases h
def E_Mod_areTwins_89 (G : Gl) (p : Program) (l : Launch) (e : Env) (s : State) (m : MethodId) (args : Array Value) (below : List Frame) (meth : Method) (c : Code) (Q : State → Prop) (x4 : Int32) : Nat → (Int32 × Int32 × zM) → Prop := fun k (x6, x7, M) => match k with
  | 0 => ∀ (H : Heap) (locs : List Loc) (ls : Array Slot), St G M s H locs → lv_has ls 8 [(0, .ref (G.1 + 63)), (4, .int x4), (6, .int x6), (7, .int x7)] → W p l e (rmM 2 49) s m args below meth c H locs 0 0 Q (F0 m 89 ls [])
  | 1 => ∀ (H : Heap) (locs : List Loc) (ls : Array Slot), St G M s H locs → lv_has ls 8 [(6, .int x6)] → W p l e (rmM 2 49) s m args below meth c H locs 0 0 Q (F0 m 131 ls [])
  | _ => True
set_option maxHeartbeats 4000000 in
set_option maxRecDepth 100000 in
theorem w_Mod_areTwins_B89 {G : Gl} {p : Program} {l : Launch} {e : Env} {s : State} {m : MethodId} {args : Array Value} {below : List Frame} {meth : Method} {c : Code} {Q : State → Prop} (C : Cx G cX11_areTwins 8 RX11 p s m args c) (x4 : Int32) (F : Nat) : ∀ (σ : (Int32 × Int32 × zM)) (q : Nat × (Int32 × Int32 × zM)), Mod_areTwins_B89 F x4 σ = some q → (E_Mod_areTwins_89 G p l e s m args below meth c Q x4) q.1 q.2 → (E_Mod_areTwins_89 G p l e s m args below meth c Q x4) 0 σ := by
  intro (x6, x7, M) q h hE H locs ls hS hl
  obtain ⟨hx, hb, -⟩ := id C
  unfold Mod_areTwins_B89 at h
  try dsimp only at h
  refine lv_iload hx hb dX11_areTwins_89 (lv_at hl 3 rfl) ?_
  refine lv_iload hx hb dX11_areTwins_91 (lv_at hl 1 rfl) ?_
  refine lv_icmp_ge (tgt := 131) hx hb dX11_areTwins_93 (by decide) (fun c_15 => ?_) (fun c_15 => ?_)
  · replace h := ifp c_15 h
    obtain rfl := Option.some.inj h
    exact hE _ _ _ hS (lv_sub hl [2] rfl)
  · replace h := ifn c_15 h
    refine lv_iload hx hb dX11_areTwins_96 (lv_at hl 2 rfl) ?_
    refine lv_if_eq (tgt := 131) hx hb dX11_areTwins_98 (by decide) (fun c_16 => ?_) (fun c_16 => ?_)
    · replace h := ifp c_16 h
      obtain rfl := Option.some.inj h
      exact hE _ _ _ hS (lv_sub hl [2] rfl)
    · replace h := ifn c_16 h
      refine lv_aload_n hx hb dX11_areTwins_101 rfl (lv_at hl 0 rfl) ?_
      refine r_gR C hS fl_X11_100 rfl rfl rfl dX11_areTwins_102 ?_
      refine lv_iload hx hb dX11_areTwins_105 (lv_at hl 3 rfl) ?_
      obtain ⟨b_17, h⟩ := ift h
      refine r_iald C hS rfl rfl b_17 dX11_areTwins_107 ?_
      refine lv_aload_n hx hb dX11_areTwins_108 rfl (lv_at hl 0 rfl) ?_
      refine r_gR C hS fl_X11_103 rfl rfl rfl dX11_areTwins_109 ?_
      refine lv_iload hx hb dX11_areTwins_112 (lv_at hl 3 rfl) ?_
      refine r_iald C hS rfl rfl b_17 dX11_areTwins_114 ?_
      refine lv_icmp_ne (tgt := 122) hx hb dX11_areTwins_115 (by decide) (fun c_18 => ?_) (fun c_18 => ?_)
      · replace h := ifn c_18 h
        refine lv_iconst (v := 0) hx hb dX11_areTwins_122 (by decide) ?_
        refine lv_istore (lv' := [(6, .int 0), (0, .ref (G.1 + 63)), (4, .int x4), (7, .int x7)]) hx hb dX11_areTwins_123 hl (by decide) rfl (fun ls hl => ?_)
        obtain ⟨x7_19, e_20, h⟩ := olt h
        refine lv_iinc (v := x7_19) (lv' := [(7, .int x7_19), (6, .int 0), (0, .ref (G.1 + 63)), (4, .int x4)]) hx hb dX11_areTwins_125 hl (k := 3) rfl (by rw [e_20]; rfl) (by decide) rfl (fun ls hl => ?_)
        refine lv_goto (tgt := 89) hx hb dX11_areTwins_128 (by decide) ?_
        obtain rfl := Option.some.inj h
        exact hE _ _ _ hS (lv_sub hl [2, 3, 1, 0] rfl)
      · replace h := ifp c_18 h
        refine lv_iconst (v := 1) hx hb dX11_areTwins_118 (by decide) ?_
        refine lv_goto (tgt := 123) hx hb dX11_areTwins_119 (by decide) ?_
        refine lv_istore (lv' := [(6, .int 1), (0, .ref (G.1 + 63)), (4, .int x4), (7, .int x7)]) hx hb dX11_areTwins_123 hl (by decide) rfl (fun ls hl => ?_)
        obtain ⟨x7_21, e_22, h⟩ := olt h
        refine lv_iinc (v := x7_21) (lv' := [(7, .int x7_21), (6, .int 1), (0, .ref (G.1 + 63)), (4, .int x4)]) hx hb dX11_areTwins_125 hl (k := 3) rfl (by rw [e_22]; rfl) (by decide) rfl (fun ls hl => ?_)
        refine lv_goto (tgt := 89) hx hb dX11_areTwins_128 (by decide) ?_
        obtain rfl := Option.some.inj h
        exact hE _ _ _ hS (lv_sub hl [2, 3, 1, 0] rfl)
set_option maxHeartbeats 4000000 in
set_option maxRecDepth 100000 in
theorem w_Mod_areTwins_J84 {G : Gl} {p : Program} {l : Launch} {e : Env} {s : State} {m : MethodId} {args : Array Value} {below : List Frame} {meth : Method} {c : Code} (C : Cx G cX11_areTwins 8 RX11 p s m args c) (hr : meth.sig.returnType = (some .boolean)) (hlk : meth.locks = false) (F : Nat) (x4 : Int32) (y0 : Int32) (M : zM)  (q : Int32 × zM) (h : Mod_areTwins_J84 F x4 y0 M = some q) (H : Heap) (locs : List Loc) (ls : Array Slot) (hS : St G M s H locs) (hl : lv_has ls 8 [(0, .ref (G.1 + 63)), (4, .int x4)]) : W p l e (rmM 2 49) s m args below meth c H locs 0 0 (MQ below (PoI G q) args s 0 0 (gA G)) (F0 m 84 ls [.int y0]) := by
  obtain ⟨hx, hb, -⟩ := id C
  unfold Mod_areTwins_J84 at h
  refine lv_istore (lv' := [(6, .int y0), (0, .ref (G.1 + 63)), (4, .int x4)]) hx hb dX11_areTwins_84 hl (by decide) rfl (fun ls hl => ?_)
  refine lv_iconst (v := 0) hx hb dX11_areTwins_86 (by decide) ?_
  refine lv_istore (lv' := [(7, .int 0), (6, .int y0), (0, .ref (G.1 + 63)), (4, .int x4)]) hx hb dX11_areTwins_87 hl (by decide) rfl (fun ls hl => ?_)
  obtain ⟨⟨k_26, x6_23, x7_24, M_25⟩, hq_27, h⟩ := ob h
  try dsimp only at h
  refine loopW (E := (E_Mod_areTwins_89 G p l e s m _ below meth c _ x4)) (w_Mod_areTwins_B89 C x4 F) F _ _ hq_27 ?_ _ _ _ hS (lv_sub hl [2, 3, 1, 0] rfl)
  by_cases ek_28 : k_26 = 1
  · replace h := ifp ek_28 h
    subst ek_28
    intro H locs ls hS hl
    refine lv_iload hx hb dX11_areTwins_131 (lv_at hl 0 rfl) ?_
    exact r_zret C hS hr hlk h dX11_areTwins_133
  · replace h := ifn ek_28 h
    cases h
set_option maxHeartbeats 4000000 in
set_option maxRecDepth 100000 in
theorem c_X11_areTwins (l : Launch) (G : Gl) (F : Nat) (x1 : Int32) (x2 : Int32) (x3 : Int32) (M : zM)  (q : Int32 × zM) (h : Mod_areTwins F x1 x2 x3 M = some q) : Met l yX11_areTwins (wsM yX11_areTwins cX11_areTwins 8 (some .boolean)) (rmM 2 49) (Pre G M [.ref (G.1 + 63), .int x1, .int x2, .int x3]) (PoI G q) 0 0 (gA G) := by
  refine r_met (own := RX11) rfl (by decide) (Nat.le_of_ble_eq_true rfl) ?_
  intro p e s m below meth c ls C hr hlk hS hl
  have hl : lv_has ls 8 [(0, .ref (G.1 + 63)), (1, .int x1), (2, .int x2), (3, .int x3)] := hl
  obtain ⟨hx, hb, -⟩ := id C
  unfold Mod_areTwins at h
  refine lv_aload_n hx hb dX11_areTwins_0 rfl (lv_at hl 0 rfl) ?_
  refine r_gR C hS fl_X11_106 rfl rfl rfl dX11_areTwins_1 ?_
  refine lv_iload_n hx hb dX11_areTwins_4 rfl (lv_at hl 2 rfl) ?_
  obtain ⟨b_1, h⟩ := ift h
  refine r_lald C hS rfl rfl b_1 dX11_areTwins_5 ?_
  refine lv_aload_n hx hb dX11_areTwins_6 rfl (lv_at hl 0 rfl) ?_
  refine r_gR C hS fl_X11_106 rfl rfl rfl dX11_areTwins_7 ?_
  refine lv_iload_n hx hb dX11_areTwins_10 rfl (lv_at hl 3 rfl) ?_
  obtain ⟨b_2, h⟩ := ift h
  refine r_lald C hS rfl rfl b_2 dX11_areTwins_11 ?_
  refine W.lcmp hx hb dX11_areTwins_12 ?_
  refine lv_if_ne (tgt := 46) hx hb dX11_areTwins_13 (by decide) (fun c_3 => ?_) (fun c_3 => ?_)
  · replace h := ifn c_3 h
    refine lv_iconst (v := 0) hx hb dX11_areTwins_46 (by decide) ?_
    exact r_zret C hS hr hlk h dX11_areTwins_47
  · replace h := ifp c_3 h
    refine lv_aload_n hx hb dX11_areTwins_16 rfl (lv_at hl 0 rfl) ?_
    refine r_gR C hS fl_X11_41 rfl rfl rfl dX11_areTwins_17 ?_
    refine lv_sipush (v := 1000) hx hb dX11_areTwins_20 (by decide) ?_
    refine lv_iload_n hx hb dX11_areTwins_23 rfl (lv_at hl 1 rfl) ?_
    refine lv_imul hx hb dX11_areTwins_24 ?_
    refine lv_iload_n hx hb dX11_areTwins_25 rfl (lv_at hl 2 rfl) ?_
    refine lv_iadd hx hb dX11_areTwins_26 ?_
    obtain ⟨b_4, h⟩ := ift h
    refine r_iald C hS rfl rfl b_4 dX11_areTwins_27 ?_
    refine lv_if_lt (tgt := 46) hx hb dX11_areTwins_28 (by decide) (fun c_5 => ?_) (fun c_5 => ?_)
    · replace h := ifp c_5 h
      refine lv_iconst (v := 0) hx hb dX11_areTwins_46 (by decide) ?_
      exact r_zret C hS hr hlk h dX11_areTwins_47
    · replace h := ifn c_5 h
      refine lv_aload_n hx hb dX11_areTwins_31 rfl (lv_at hl 0 rfl) ?_
      refine r_gR C hS fl_X11_41 rfl rfl rfl dX11_areTwins_32 ?_
      refine lv_sipush (v := 1000) hx hb dX11_areTwins_35 (by decide) ?_
      refine lv_iload_n hx hb dX11_areTwins_38 rfl (lv_at hl 1 rfl) ?_
      refine lv_imul hx hb dX11_areTwins_39 ?_
      refine lv_iload_n hx hb dX11_areTwins_40 rfl (lv_at hl 3 rfl) ?_
      refine lv_iadd hx hb dX11_areTwins_41 ?_
      obtain ⟨b_6, h⟩ := ift h
      refine r_iald C hS rfl rfl b_6 dX11_areTwins_42 ?_
      refine lv_if_ge (tgt := 48) hx hb dX11_areTwins_43 (by decide) (fun c_7 => ?_) (fun c_7 => ?_)
      · replace h := ifp c_7 h
        refine lv_aload_n hx hb dX11_areTwins_48 rfl (lv_at hl 0 rfl) ?_
        refine lv_iload_n hx hb dX11_areTwins_49 rfl (lv_at hl 1 rfl) ?_
        refine lv_iload_n hx hb dX11_areTwins_50 rfl (lv_at hl 2 rfl) ?_
        refine lv_aload_n hx hb dX11_areTwins_51 rfl (lv_at hl 0 rfl) ?_
        refine r_gR C hS fl_X11_100 rfl rfl rfl dX11_areTwins_52 ?_
        obtain ⟨⟨r_8, M_9⟩, hq_10, h⟩ := ob h
        try dsimp only at h
        refine r_thenI hS (r_runV C hS hl.1 cv_X11_265 rfl (c_X11_runOf l G F x1 x2 92 M rfl _ hq_10) ⟨by decide, by decide⟩ rfl rfl (Nat.le_of_ble_eq_true rfl) ⟨Nat.zero_le _, Nat.zero_le _⟩ dX11_areTwins_55) (fun H locs hS => ?_)
        refine lv_istore (lv' := [(4, .int r_8), (0, .ref (G.1 + 63)), (1, .int x1), (2, .int x2), (3, .int x3)]) hx hb dX11_areTwins_58 hl (by decide) rfl (fun ls hl => ?_)
        refine lv_aload_n hx hb dX11_areTwins_60 rfl (lv_at hl 1 rfl) ?_
        refine lv_iload_n hx hb dX11_areTwins_61 rfl (lv_at hl 2 rfl) ?_
        refine lv_iload_n hx hb dX11_areTwins_62 rfl (lv_at hl 4 rfl) ?_
        refine lv_aload_n hx hb dX11_areTwins_63 rfl (lv_at hl 1 rfl) ?_
        refine r_gR C hS fl_X11_103 rfl rfl rfl dX11_areTwins_64 ?_
        obtain ⟨⟨r_11, M_12⟩, hq_13, h⟩ := ob h
        try dsimp only at h
        refine r_thenI hS (r_runV C hS hl.1 cv_X11_265 rfl (c_X11_runOf l G F x1 x3 93 M_9 rfl _ hq_13) ⟨by decide, by decide⟩ rfl rfl (Nat.le_of_ble_eq_true rfl) ⟨Nat.zero_le _, Nat.zero_le _⟩ dX11_areTwins_67) (fun H locs hS => ?_)
        refine lv_istore (lv' := [(5, .int r_11), (4, .int r_8), (0, .ref (G.1 + 63)), (1, .int x1), (2, .int x2), (3, .int x3)]) hx hb dX11_areTwins_70 hl (by decide) rfl (fun ls hl => ?_)
        refine lv_iload hx hb dX11_areTwins_72 (lv_at hl 1 rfl) ?_
        refine lv_iload hx hb dX11_areTwins_74 (lv_at hl 0 rfl) ?_
        refine lv_icmp_ne (tgt := 83) hx hb dX11_areTwins_76 (by decide) (fun c_14 => ?_) (fun c_14 => ?_)
        · replace h := ifn c_14 h
          refine lv_iconst (v := 0) hx hb dX11_areTwins_83 (by decide) ?_
          exact w_Mod_areTwins_J84 C hr hlk F r_8 0 M_12  q h _ _ _ hS (lv_sub hl [2, 1] rfl)
        · replace h := ifp c_14 h
          refine lv_iconst (v := 1) hx hb dX11_areTwins_79 (by decide) ?_
          refine lv_goto (tgt := 84) hx hb dX11_areTwins_80 (by decide) ?_
          exact w_Mod_areTwins_J84 C hr hlk F r_8 1 M_12  q h _ _ _ hS (lv_sub hl [2, 1] rfl)
      · replace h := ifn c_7 h
        refine lv_iconst (v := 0) hx hb dX11_areTwins_46 (by decide) ?_
        exact r_zret C hS hr hlk h dX11_areTwins_47
def E_Mod_twins_43 (G : Gl) (p : Program) (l : Launch) (e : Env) (s : State) (m : MethodId) (args : Array Value) (below : List Frame) (meth : Method) (c : Code) (Q : State → Prop) (x1 : Int32) (x2 : Int32) : Nat → (Int32 × Int32 × Int32 × Int32 × zM) → Prop := fun k (x3, x4, x5, x6, M) => match k with
  | 0 => ∀ (H : Heap) (locs : List Loc) (ls : Array Slot), St G M s H locs → lv_has ls 10 [(0, .ref (G.1 + 63)), (1, .int x1), (2, .int x2), (3, .int x3), (4, .int x4), (5, .int x5), (6, .int x6)] → W p l e (rmM 3 76) s m args below meth c H locs 0 0 Q (F0 m 43 ls [])
  | 1 => ∀ (H : Heap) (locs : List Loc) (ls : Array Slot), St G M s H locs → lv_has ls 10 [(2, .int x2), (3, .int x3), (4, .int x4), (5, .int x5)] → W p l e (rmM 3 76) s m args below meth c H locs 0 0 Q (F0 m 173 ls [])
  | _ => True
def E_Mod_twins_57 (G : Gl) (p : Program) (l : Launch) (e : Env) (s : State) (m : MethodId) (args : Array Value) (below : List Frame) (meth : Method) (c : Code) (Q : State → Prop) (x1 : Int32) (x2 : Int32) (x5 : Int32) (x6 : Int32) : Nat → (Int32 × Int32 × Int32 × Int32 × zM) → Prop := fun k (x3, x4, x7, x8, M) => match k with
  | 0 => ∀ (H : Heap) (locs : List Loc) (ls : Array Slot), St G M s H locs → lv_has ls 10 [(0, .ref (G.1 + 63)), (1, .int x1), (2, .int x2), (3, .int x3), (4, .int x4), (5, .int x5), (6, .int x6), (7, .int x7), (8, .int x8)] → W p l e (rmM 3 76) s m args below meth c H locs 0 0 Q (F0 m 57 ls [])
  | 1 => ∀ (H : Heap) (locs : List Loc) (ls : Array Slot), St G M s H locs → lv_has ls 10 [(0, .ref (G.1 + 63)), (1, .int x1), (2, .int x2), (3, .int x3), (4, .int x4), (5, .int x5), (6, .int x6), (7, .int x7)] → W p l e (rmM 3 76) s m args below meth c H locs 0 0 Q (F0 m 152 ls [])
  | _ => True
set_option maxHeartbeats 4000000 in
set_option maxRecDepth 100000 in
theorem w_Mod_twins_J131 {G : Gl} {p : Program} {l : Launch} {e : Env} {s : State} {m : MethodId} {args : Array Value} {below : List Frame} {meth : Method} {c : Code} {Q : State → Prop} (C : Cx G cX11_twins 10 RX11 p s m args c) (x1 : Int32) (x2 : Int32) (x5 : Int32) (x6 : Int32) (F : Nat) (x4 : Int32) (x7 : Int32) (x8 : Int32) (x9 : Int32) (y0 : Int32) (M : zM)  (q : Nat × (Int32 × Int32 × Int32 × Int32 × zM)) (h : Mod_twins_J131 F x1 x2 x4 x5 x6 x7 x8 x9 y0 M = some q) (hE : (E_Mod_twins_57 G p l e s m args below meth c Q x1 x2 x5 x6) q.1 q.2) (H : Heap) (locs : List Loc) (ls : Array Slot) (hS : St G M s H locs) (hl : lv_has ls 10 [(0, .ref (G.1 + 63)), (1, .int x1), (2, .int x2), (4, .int x4), (5, .int x5), (6, .int x6), (7, .int x7), (8, .int x8), (9, .int x9)]) : W p l e (rmM 3 76) s m args below meth c H locs 0 0 Q (F0 m 131 ls [.int y0]) := by
  obtain ⟨hx, hb, -⟩ := id C
  unfold Mod_twins_J131 at h
  refine lv_istore_n (lv' := [(3, .int y0), (0, .ref (G.1 + 63)), (1, .int x1), (2, .int x2), (4, .int x4), (5, .int x5), (6, .int x6), (7, .int x7), (8, .int x8), (9, .int x9)]) hx hb dX11_twins_131 rfl hl (by decide) rfl (fun ls hl => ?_)
  refine lv_iload hx hb dX11_twins_132 (lv_at hl 9 rfl) ?_
  refine lv_if_eq (tgt := 142) hx hb dX11_twins_134 (by decide) (fun c_18 => ?_) (fun c_18 => ?_)
  · replace h := ifp c_18 h
    refine lv_iload hx hb dX11_twins_142 (lv_at hl 4 rfl) ?_
    refine lv_istore (lv' := [(4, .int x4), (3, .int y0), (0, .ref (G.1 + 63)), (1, .int x1), (2, .int x2), (5, .int x5), (6, .int x6), (7, .int x7), (8, .int x8), (9, .int x9)]) hx hb dX11_twins_144 hl (by decide) rfl (fun ls hl => ?_)
    obtain ⟨x8_19, e_20, h⟩ := olt h
    refine lv_iinc (v := x8_19) (lv' := [(8, .int x8_19), (4, .int x4), (3, .int y0), (0, .ref (G.1 + 63)), (1, .int x1), (2, .int x2), (5, .int x5), (6, .int x6), (7, .int x7), (9, .int x9)]) hx hb dX11_twins_146 hl (k := 8) rfl (by rw [e_20]; rfl) (by decide) rfl (fun ls hl => ?_)
    refine lv_goto (tgt := 57) hx hb dX11_twins_149 (by decide) ?_
    obtain rfl := Option.some.inj h
    exact hE _ _ _ hS (lv_sub hl [3, 4, 5, 2, 1, 6, 7, 8, 0] rfl)
  · replace h := ifn c_18 h
    refine lv_iload hx hb dX11_twins_137 (lv_at hl 6 rfl) ?_
    refine lv_goto (tgt := 144) hx hb dX11_twins_139 (by decide) ?_
    refine lv_istore (lv' := [(4, .int x6), (3, .int y0), (0, .ref (G.1 + 63)), (1, .int x1), (2, .int x2), (5, .int x5), (6, .int x6), (7, .int x7), (8, .int x8), (9, .int x9)]) hx hb dX11_twins_144 hl (by decide) rfl (fun ls hl => ?_)
    obtain ⟨x8_21, e_22, h⟩ := olt h
    refine lv_iinc (v := x8_21) (lv' := [(8, .int x8_21), (4, .int x6), (3, .int y0), (0, .ref (G.1 + 63)), (1, .int x1), (2, .int x2), (5, .int x5), (6, .int x6), (7, .int x7), (9, .int x9)]) hx hb dX11_twins_146 hl (k := 8) rfl (by rw [e_22]; rfl) (by decide) rfl (fun ls hl => ?_)
    refine lv_goto (tgt := 57) hx hb dX11_twins_149 (by decide) ?_
    obtain rfl := Option.some.inj h
    exact hE _ _ _ hS (lv_sub hl [3, 4, 5, 2, 1, 6, 7, 8, 0] rfl)
set_option maxHeartbeats 4000000 in
set_option maxRecDepth 100000 in
theorem w_Mod_twins_J118 {G : Gl} {p : Program} {l : Launch} {e : Env} {s : State} {m : MethodId} {args : Array Value} {below : List Frame} {meth : Method} {c : Code} {Q : State → Prop} (C : Cx G cX11_twins 10 RX11 p s m args c) (x1 : Int32) (x2 : Int32) (x5 : Int32) (x6 : Int32) (F : Nat) (x3 : Int32) (x4 : Int32) (x7 : Int32) (x8 : Int32) (y0 : Int32) (M : zM)  (q : Nat × (Int32 × Int32 × Int32 × Int32 × zM)) (h : Mod_twins_J118 F x1 x2 x3 x4 x5 x6 x7 x8 y0 M = some q) (hE : (E_Mod_twins_57 G p l e s m args below meth c Q x1 x2 x5 x6) q.1 q.2) (H : Heap) (locs : List Loc) (ls : Array Slot) (hS : St G M s H locs) (hl : lv_has ls 10 [(0, .ref (G.1 + 63)), (1, .int x1), (2, .int x2), (3, .int x3), (4, .int x4), (5, .int x5), (6, .int x6), (7, .int x7), (8, .int x8)]) : W p l e (rmM 3 76) s m args below meth c H locs 0 0 Q (F0 m 118 ls [.int y0]) := by
  obtain ⟨hx, hb, -⟩ := id C
  unfold Mod_twins_J118 at h
  refine lv_istore (lv' := [(9, .int y0), (0, .ref (G.1 + 63)), (1, .int x1), (2, .int x2), (3, .int x3), (4, .int x4), (5, .int x5), (6, .int x6), (7, .int x7), (8, .int x8)]) hx hb dX11_twins_118 hl (by decide) rfl (fun ls hl => ?_)
  refine lv_iload hx hb dX11_twins_120 (lv_at hl 0 rfl) ?_
  refine lv_if_eq (tgt := 130) hx hb dX11_twins_122 (by decide) (fun c_17 => ?_) (fun c_17 => ?_)
  · replace h := ifp c_17 h
    refine lv_iload_n hx hb dX11_twins_130 rfl (lv_at hl 4 rfl) ?_
    exact w_Mod_twins_J131 C x1 x2 x5 x6 F x4 x7 x8 y0 x3 M  q h hE _ _ _ hS (lv_sub hl [1, 2, 3, 5, 6, 7, 8, 9, 0] rfl)
  · replace h := ifn c_17 h
    refine lv_iload hx hb dX11_twins_125 (lv_at hl 9 rfl) ?_
    refine lv_goto (tgt := 131) hx hb dX11_twins_127 (by decide) ?_
    exact w_Mod_twins_J131 C x1 x2 x5 x6 F x4 x7 x8 y0 x8 M  q h hE _ _ _ hS (lv_sub hl [1, 2, 3, 5, 6, 7, 8, 9, 0] rfl)
set_option maxHeartbeats 4000000 in
set_option maxRecDepth 100000 in
theorem w_Mod_twins_J117 {G : Gl} {p : Program} {l : Launch} {e : Env} {s : State} {m : MethodId} {args : Array Value} {below : List Frame} {meth : Method} {c : Code} {Q : State → Prop} (C : Cx G cX11_twins 10 RX11 p s m args c) (x1 : Int32) (x2 : Int32) (x5 : Int32) (x6 : Int32) (F : Nat) (x3 : Int32) (x4 : Int32) (x7 : Int32) (x8 : Int32) (M : zM)  (q : Nat × (Int32 × Int32 × Int32 × Int32 × zM)) (h : Mod_twins_J117 F x1 x2 x3 x4 x5 x6 x7 x8 M = some q) (hE : (E_Mod_twins_57 G p l e s m args below meth c Q x1 x2 x5 x6) q.1 q.2) (H : Heap) (locs : List Loc) (ls : Array Slot) (hS : St G M s H locs) (hl : lv_has ls 10 [(0, .ref (G.1 + 63)), (1, .int x1), (2, .int x2), (3, .int x3), (4, .int x4), (5, .int x5), (6, .int x6), (7, .int x7), (8, .int x8)]) : W p l e (rmM 3 76) s m args below meth c H locs 0 0 Q (F0 m 117 ls []) := by
  obtain ⟨hx, hb, -⟩ := id C
  unfold Mod_twins_J117 at h
  refine lv_iconst (v := 0) hx hb dX11_twins_117 (by decide) ?_
  exact w_Mod_twins_J118 C x1 x2 x5 x6 F x3 x4 x7 x8 0 M  q h hE _ _ _ hS (lv_sub hl [0, 1, 2, 3, 4, 5, 6, 7, 8] rfl)
set_option maxHeartbeats 4000000 in
set_option maxRecDepth 100000 in
theorem w_Mod_twins_J94 {G : Gl} {p : Program} {l : Launch} {e : Env} {s : State} {m : MethodId} {args : Array Value} {below : List Frame} {meth : Method} {c : Code} {Q : State → Prop} (C : Cx G cX11_twins 10 RX11 p s m args c) (x1 : Int32) (x2 : Int32) (x5 : Int32) (x6 : Int32) (F : Nat) (x3 : Int32) (x4 : Int32) (x8 : Int32) (y0 : Int32) (M : zM)  (q : Nat × (Int32 × Int32 × Int32 × Int32 × zM)) (h : Mod_twins_J94 F x1 x2 x3 x4 x5 x6 x8 y0 M = some q) (hE : (E_Mod_twins_57 G p l e s m args below meth c Q x1 x2 x5 x6) q.1 q.2) (H : Heap) (locs : List Loc) (ls : Array Slot) (hS : St G M s H locs) (hl : lv_has ls 10 [(0, .ref (G.1 + 63)), (1, .int x1), (2, .int x2), (3, .int x3), (4, .int x4), (5, .int x5), (6, .int x6), (8, .int x8)]) : W p l e (rmM 3 76) s m args below meth c H locs 0 0 Q (F0 m 94 ls [.int y0]) := by
  obtain ⟨hx, hb, -⟩ := id C
  unfold Mod_twins_J94 at h
  refine lv_istore (lv' := [(7, .int y0), (0, .ref (G.1 + 63)), (1, .int x1), (2, .int x2), (3, .int x3), (4, .int x4), (5, .int x5), (6, .int x6), (8, .int x8)]) hx hb dX11_twins_94 hl (by decide) rfl (fun ls hl => ?_)
  refine lv_iload hx hb dX11_twins_96 (lv_at hl 0 rfl) ?_
  refine lv_if_eq (tgt := 117) hx hb dX11_twins_98 (by decide) (fun c_16 => ?_) (fun c_16 => ?_)
  · replace h := ifp c_16 h
    exact w_Mod_twins_J117 C x1 x2 x5 x6 F x3 x4 y0 x8 M  q h hE _ _ _ hS (lv_sub hl [1, 2, 3, 4, 5, 6, 7, 0, 8] rfl)
  · replace h := ifn c_16 h
    refine lv_iload hx hb dX11_twins_101 (lv_at hl 8 rfl) ?_
    refine lv_iload hx hb dX11_twins_103 (lv_at hl 7 rfl) ?_
    refine lv_icmp_ge (tgt := 117) hx hb dX11_twins_105 (by decide) (fun c_23 => ?_) (fun c_23 => ?_)
    · replace h := ifp c_23 h
      exact w_Mod_twins_J117 C x1 x2 x5 x6 F x3 x4 y0 x8 M  q h hE _ _ _ hS (lv_sub hl [1, 2, 3, 4, 5, 6, 7, 0, 8] rfl)
    · replace h := ifn c_23 h
      refine lv_iload hx hb dX11_twins_108 (lv_at hl 5 rfl) ?_
      refine lv_if_ge (tgt := 117) hx hb dX11_twins_110 (by decide) (fun c_24 => ?_) (fun c_24 => ?_)
      · replace h := ifp c_24 h
        exact w_Mod_twins_J117 C x1 x2 x5 x6 F x3 x4 y0 x8 M  q h hE _ _ _ hS (lv_sub hl [1, 2, 3, 4, 5, 6, 7, 0, 8] rfl)
      · replace h := ifn c_24 h
        refine lv_iconst (v := 1) hx hb dX11_twins_113 (by decide) ?_
        refine lv_goto (tgt := 118) hx hb dX11_twins_114 (by decide) ?_
        exact w_Mod_twins_J118 C x1 x2 x5 x6 F x3 x4 y0 x8 1 M  q h hE _ _ _ hS (lv_sub hl [1, 2, 3, 4, 5, 6, 7, 0, 8] rfl)
set_option maxHeartbeats 4000000 in
set_option maxRecDepth 100000 in
theorem w_Mod_twins_J93 {G : Gl} {p : Program} {l : Launch} {e : Env} {s : State} {m : MethodId} {args : Array Value} {below : List Frame} {meth : Method} {c : Code} {Q : State → Prop} (C : Cx G cX11_twins 10 RX11 p s m args c) (x1 : Int32) (x2 : Int32) (x5 : Int32) (x6 : Int32) (F : Nat) (x3 : Int32) (x4 : Int32) (x8 : Int32) (M : zM)  (q : Nat × (Int32 × Int32 × Int32 × Int32 × zM)) (h : Mod_twins_J93 F x1 x2 x3 x4 x5 x6 x8 M = some q) (hE : (E_Mod_twins_57 G p l e s m args below meth c Q x1 x2 x5 x6) q.1 q.2) (H : Heap) (locs : List Loc) (ls : Array Slot) (hS : St G M s H locs) (hl : lv_has ls 10 [(0, .ref (G.1 + 63)), (1, .int x1), (2, .int x2), (3, .int x3), (4, .int x4), (5, .int x5), (6, .int x6), (8, .int x8)]) : W p l e (rmM 3 76) s m args below meth c H locs 0 0 Q (F0 m 93 ls []) := by
  obtain ⟨hx, hb, -⟩ := id C
  unfold Mod_twins_J93 at h
  refine lv_iconst (v := 0) hx hb dX11_twins_93 (by decide) ?_
  exact w_Mod_twins_J94 C x1 x2 x5 x6 F x3 x4 x8 0 M  q h hE _ _ _ hS (lv_sub hl [0, 1, 2, 3, 4, 5, 6, 7] rfl)
set_option maxHeartbeats 4000000 in
set_option maxRecDepth 100000 in
theorem w_Mod_twins_B57 {G : Gl} {p : Program} {l : Launch} {e : Env} {s : State} {m : MethodId} {args : Array Value} {below : List Frame} {meth : Method} {c : Code} {Q : State → Prop} (C : Cx G cX11_twins 10 RX11 p s m args c) (x1 : Int32) (x2 : Int32) (x5 : Int32) (x6 : Int32) (F : Nat) : ∀ (σ : (Int32 × Int32 × Int32 × Int32 × zM)) (q : Nat × (Int32 × Int32 × Int32 × Int32 × zM)), Mod_twins_B57 F x1 x2 x5 x6 σ = some q → (E_Mod_twins_57 G p l e s m args below meth c Q x1 x2 x5 x6) q.1 q.2 → (E_Mod_twins_57 G p l e s m args below meth c Q x1 x2 x5 x6) 0 σ := by
  intro (x3, x4, x7, x8, M) q h hE H locs ls hS hl
  obtain ⟨hx, hb, -⟩ := id C
  unfold Mod_twins_B57 at h
  try dsimp only at h
  refine lv_iload hx hb dX11_twins_57 (lv_at hl 8 rfl) ?_
  refine lv_sipush (v := 1000) hx hb dX11_twins_59 (by decide) ?_
  refine lv_icmp_ge (tgt := 152) hx hb dX11_twins_62 (by decide) (fun c_13 => ?_) (fun c_13 => ?_)
  · replace h := ifp c_13 h
    obtain rfl := Option.some.inj h
    exact hE _ _ _ hS (lv_sub hl [0, 1, 2, 3, 4, 5, 6, 7] rfl)
  · replace h := ifn c_13 h
    refine lv_iload hx hb dX11_twins_65 (lv_at hl 7 rfl) ?_
    refine lv_if_ne (tgt := 152) hx hb dX11_twins_67 (by decide) (fun c_14 => ?_) (fun c_14 => ?_)
    · replace h := ifn c_14 h
      obtain rfl := Option.some.inj h
      exact hE _ _ _ hS (lv_sub hl [0, 1, 2, 3, 4, 5, 6, 7] rfl)
    · replace h := ifp c_14 h
      refine lv_iload hx hb dX11_twins_70 (lv_at hl 8 rfl) ?_
      refine lv_iload hx hb dX11_twins_72 (lv_at hl 6 rfl) ?_
      refine lv_icmp_eq (tgt := 93) hx hb dX11_twins_74 (by decide) (fun c_15 => ?_) (fun c_15 => ?_)
      · replace h := ifp c_15 h
        exact w_Mod_twins_J93 C x1 x2 x5 x6 F x3 x4 x8 M  q h hE _ _ _ hS (lv_sub hl [0, 1, 2, 3, 4, 5, 6, 8] rfl)
      · replace h := ifn c_15 h
        refine lv_aload_n hx hb dX11_twins_77 rfl (lv_at hl 0 rfl) ?_
        refine lv_iload_n hx hb dX11_twins_78 rfl (lv_at hl 1 rfl) ?_
        refine lv_iload hx hb dX11_twins_79 (lv_at hl 8 rfl) ?_
        refine lv_iload hx hb dX11_twins_81 (lv_at hl 6 rfl) ?_
        obtain ⟨⟨r_25, M_26⟩, hq_27, h⟩ := ob h
        try dsimp only at h
        refine r_thenI hS (r_runV C hS hl.1 cv_X11_274 rfl (c_X11_areTwins l G F x1 x8 x6 M  _ hq_27) ⟨by decide, by decide⟩ rfl rfl (Nat.le_of_ble_eq_true rfl) ⟨Nat.zero_le _, Nat.zero_le _⟩ dX11_twins_83) (fun H locs hS => ?_)
        refine lv_if_eq (tgt := 93) hx hb dX11_twins_86 (by decide) (fun c_28 => ?_) (fun c_28 => ?_)
        · replace h := ifp c_28 h
          exact w_Mod_twins_J93 C x1 x2 x5 x6 F x3 x4 x8 M_26  q h hE _ _ _ hS (lv_sub hl [0, 1, 2, 3, 4, 5, 6, 8] rfl)
        · replace h := ifn c_28 h
          refine lv_iconst (v := 1) hx hb dX11_twins_89 (by decide) ?_
          refine lv_goto (tgt := 94) hx hb dX11_twins_90 (by decide) ?_
          exact w_Mod_twins_J94 C x1 x2 x5 x6 F x3 x4 x8 1 M_26  q h hE _ _ _ hS (lv_sub hl [0, 1, 2, 3, 4, 5, 6, 8] rfl)
set_option maxHeartbeats 4000000 in
set_option maxRecDepth 100000 in
theorem w_Mod_twins_J152 {G : Gl} {p : Program} {l : Launch} {e : Env} {s : State} {m : MethodId} {args : Array Value} {below : List Frame} {meth : Method} {c : Code} {Q : State → Prop} (C : Cx G cX11_twins 10 RX11 p s m args c) (x1 : Int32) (x2 : Int32) (F : Nat) (x3 : Int32) (x4 : Int32) (x5 : Int32) (x6 : Int32) (x7 : Int32) (M : zM)  (q : Nat × (Int32 × Int32 × Int32 × Int32 × zM)) (h : Mod_twins_J152 F x1 x2 x3 x4 x5 x6 x7 M = some q) (hE : (E_Mod_twins_43 G p l e s m args below meth c Q x1 x2) q.1 q.2) (H : Heap) (locs : List Loc) (ls : Array Slot) (hS : St G M s H locs) (hl : lv_has ls 10 [(0, .ref (G.1 + 63)), (1, .int x1), (2, .int x2), (3, .int x3), (4, .int x4), (5, .int x5), (6, .int x6), (7, .int x7)]) : W p l e (rmM 3 76) s m args below meth c H locs 0 0 Q (F0 m 152 ls []) := by
  obtain ⟨hx, hb, -⟩ := id C
  unfold Mod_twins_J152 at h
  refine lv_iload hx hb dX11_twins_152 (lv_at hl 5 rfl) ?_
  refine lv_iload hx hb dX11_twins_154 (lv_at hl 7 rfl) ?_
  refine lv_if_eq (tgt := 163) hx hb dX11_twins_156 (by decide) (fun c_36 => ?_) (fun c_36 => ?_)
  · replace h := ifp c_36 h
    refine lv_iconst (v := 0) hx hb dX11_twins_163 (by decide) ?_
    refine lv_iadd hx hb dX11_twins_164 ?_
    obtain ⟨x5_37, e_38, h⟩ := olt h
    refine r_nI e_38 ?_
    refine lv_istore (lv' := [(5, .int x5_37), (0, .ref (G.1 + 63)), (1, .int x1), (2, .int x2), (3, .int x3), (4, .int x4), (6, .int x6), (7, .int x7)]) hx hb dX11_twins_165 hl (by decide) rfl (fun ls hl => ?_)
    obtain ⟨x6_39, e_40, h⟩ := olt h
    refine lv_iinc (v := x6_39) (lv' := [(6, .int x6_39), (5, .int x5_37), (0, .ref (G.1 + 63)), (1, .int x1), (2, .int x2), (3, .int x3), (4, .int x4), (7, .int x7)]) hx hb dX11_twins_167 hl (k := 6) rfl (by rw [e_40]; rfl) (by decide) rfl (fun ls hl => ?_)
    refine lv_goto (tgt := 43) hx hb dX11_twins_170 (by decide) ?_
    obtain rfl := Option.some.inj h
    exact hE _ _ _ hS (lv_sub hl [2, 3, 4, 5, 6, 1, 0] rfl)
  · replace h := ifn c_36 h
    refine lv_iconst (v := 1) hx hb dX11_twins_159 (by decide) ?_
    refine lv_goto (tgt := 164) hx hb dX11_twins_160 (by decide) ?_
    refine lv_iadd hx hb dX11_twins_164 ?_
    obtain ⟨x5_41, e_42, h⟩ := olt h
    refine r_nI e_42 ?_
    refine lv_istore (lv' := [(5, .int x5_41), (0, .ref (G.1 + 63)), (1, .int x1), (2, .int x2), (3, .int x3), (4, .int x4), (6, .int x6), (7, .int x7)]) hx hb dX11_twins_165 hl (by decide) rfl (fun ls hl => ?_)
    obtain ⟨x6_43, e_44, h⟩ := olt h
    refine lv_iinc (v := x6_43) (lv' := [(6, .int x6_43), (5, .int x5_41), (0, .ref (G.1 + 63)), (1, .int x1), (2, .int x2), (3, .int x3), (4, .int x4), (7, .int x7)]) hx hb dX11_twins_167 hl (k := 6) rfl (by rw [e_44]; rfl) (by decide) rfl (fun ls hl => ?_)
    refine lv_goto (tgt := 43) hx hb dX11_twins_170 (by decide) ?_
    obtain rfl := Option.some.inj h
    exact hE _ _ _ hS (lv_sub hl [2, 3, 4, 5, 6, 1, 0] rfl)
set_option maxHeartbeats 4000000 in
set_option maxRecDepth 100000 in
theorem w_Mod_twins_B43 {G : Gl} {p : Program} {l : Launch} {e : Env} {s : State} {m : MethodId} {args : Array Value} {below : List Frame} {meth : Method} {c : Code} {Q : State → Prop} (C : Cx G cX11_twins 10 RX11 p s m args c) (x1 : Int32) (x2 : Int32) (F : Nat) : ∀ (σ : (Int32 × Int32 × Int32 × Int32 × zM)) (q : Nat × (Int32 × Int32 × Int32 × Int32 × zM)), Mod_twins_B43 F x1 x2 σ = some q → (E_Mod_twins_43 G p l e s m args below meth c Q x1 x2) q.1 q.2 → (E_Mod_twins_43 G p l e s m args below meth c Q x1 x2) 0 σ := by
  intro (x3, x4, x5, x6, M) q h hE H locs ls hS hl
  obtain ⟨hx, hb, -⟩ := id C
  unfold Mod_twins_B43 at h
  try dsimp only at h
  refine lv_iload hx hb dX11_twins_43 (lv_at hl 6 rfl) ?_
  refine lv_sipush (v := 1000) hx hb dX11_twins_45 (by decide) ?_
  refine lv_icmp_ge (tgt := 173) hx hb dX11_twins_48 (by decide) (fun c_12 => ?_) (fun c_12 => ?_)
  · replace h := ifp c_12 h
    obtain rfl := Option.some.inj h
    exact hE _ _ _ hS (lv_sub hl [2, 3, 4, 5] rfl)
  · replace h := ifn c_12 h
    refine lv_iconst (v := 0) hx hb dX11_twins_51 (by decide) ?_
    refine lv_istore (lv' := [(7, .int 0), (0, .ref (G.1 + 63)), (1, .int x1), (2, .int x2), (3, .int x3), (4, .int x4), (5, .int x5), (6, .int x6)]) hx hb dX11_twins_52 hl (by decide) rfl (fun ls hl => ?_)
    refine lv_iconst (v := 0) hx hb dX11_twins_54 (by decide) ?_
    refine lv_istore (lv' := [(8, .int 0), (7, .int 0), (0, .ref (G.1 + 63)), (1, .int x1), (2, .int x2), (3, .int x3), (4, .int x4), (5, .int x5), (6, .int x6)]) hx hb dX11_twins_55 hl (by decide) rfl (fun ls hl => ?_)
    obtain ⟨⟨k_34, x3_29, x4_30, x7_31, x8_32, M_33⟩, hq_35, h⟩ := ob h
    try dsimp only at h
    refine loopW (E := (E_Mod_twins_57 G p l e s m _ below meth c _ x1 x2 x5 x6)) (w_Mod_twins_B57 C x1 x2 x5 x6 F) F _ _ hq_35 ?_ _ _ _ hS (lv_sub hl [2, 3, 4, 5, 6, 7, 8, 1, 0] rfl)
    by_cases ek_45 : k_34 = 1
    · replace h := ifp ek_45 h
      subst ek_45
      intro H locs ls hS hl
      exact w_Mod_twins_J152 C x1 x2 F x3_29 x4_30 x5 x6 x7_31 M_33  q h hE _ _ _ hS (lv_sub hl [0, 1, 2, 3, 4, 5, 6, 7] rfl)
    · replace h := ifn ek_45 h
      cases h
set_option maxHeartbeats 4000000 in
set_option maxRecDepth 100000 in
theorem c_X11_twins (l : Launch) (G : Gl) (F : Nat) (x1 : Int32) (x2 : Int32) (M : zM)  (q : Int32 × zM) (h : Mod_twins F x1 x2 M = some q) : Met l yX11_twins (wsM yX11_twins cX11_twins 10 (some .int)) (rmM 3 76) (Pre G M [.ref (G.1 + 63), .int x1, .int x2]) (PoI G q) 0 0 (gA G) := by
  refine r_met (own := RX11) rfl (by decide) (Nat.le_of_ble_eq_true rfl) ?_
  intro p e s m below meth c ls C hr hlk hS hl
  have hl : lv_has ls 10 [(0, .ref (G.1 + 63)), (1, .int x1), (2, .int x2)] := hl
  obtain ⟨hx, hb, -⟩ := id C
  unfold Mod_twins at h
  refine lv_iload_n hx hb dX11_twins_0 rfl (lv_at hl 1 rfl) ?_
  obtain ⟨⟨r_1, M_2⟩, hq_3, h⟩ := ob h
  try dsimp only at h
  refine r_thenI hS (r_runS C hS hl.1 cs_X11_194 (c_X11_isTongue l G F x1 M  _ hq_3) ⟨by decide, by decide⟩ rfl rfl (Nat.le_of_ble_eq_true rfl) ⟨Nat.zero_le _, Nat.zero_le _⟩ dX11_twins_1) (fun H locs hS => ?_)
  refine lv_if_ne (tgt := 11) hx hb dX11_twins_4 (by decide) (fun c_4 => ?_) (fun c_4 => ?_)
  · replace h := ifn c_4 h
    refine lv_iload_n hx hb dX11_twins_11 rfl (lv_at hl 2 rfl) ?_
    refine lv_i2l (v := x2.toInt64) hx hb dX11_twins_12 rfl ?_
    refine lv_lconst (v := 0) hx hb dX11_twins_13 (by decide) ?_
    refine lv_ldc2 hx hb C.2.2.2.1 (C.2.2.2.2.1 _ tw_1049) dX11_twins_14 ?_
    obtain ⟨⟨r_5, M_6⟩, hq_7, h⟩ := ob h
    try dsimp only at h
    refine r_thenI hS (r_runS C hS hl.1 cs_X11_123 (c_X11_in l G F x2.toInt64 0 2 M_2  _ hq_7) ⟨by decide, by decide⟩ rfl rfl (Nat.le_of_ble_eq_true rfl) ⟨Nat.zero_le _, Nat.zero_le _⟩ dX11_twins_17) (fun H locs hS => ?_)
    refine lv_if_ne (tgt := 27) hx hb dX11_twins_20 (by decide) (fun c_8 => ?_) (fun c_8 => ?_)
    · replace h := ifn c_8 h
      refine lv_aload_n hx hb dX11_twins_27 rfl (lv_at hl 0 rfl) ?_
      refine lv_iload_n hx hb dX11_twins_28 rfl (lv_at hl 1 rfl) ?_
      obtain ⟨⟨_r_9, M_10⟩, hq_11, h⟩ := ob h
      try dsimp only at h
      refine r_thenV hS (r_runV C hS hl.1 cv_X11_271 rfl (c_X11_findMixes l G F x1 M_6  _ hq_11) ⟨by decide, by decide⟩ rfl rfl (Nat.le_of_ble_eq_true rfl) ⟨Nat.zero_le _, Nat.zero_le _⟩ dX11_twins_29) (fun H locs hS => ?_)
      refine lv_iconst (v := (-1)) hx hb dX11_twins_32 (by decide) ?_
      refine lv_istore_n (lv' := [(3, .int (-1)), (0, .ref (G.1 + 63)), (1, .int x1), (2, .int x2)]) hx hb dX11_twins_33 rfl hl (by decide) rfl (fun ls hl => ?_)
      refine lv_iconst (v := (-1)) hx hb dX11_twins_34 (by decide) ?_
      refine lv_istore (lv' := [(4, .int (-1)), (3, .int (-1)), (0, .ref (G.1 + 63)), (1, .int x1), (2, .int x2)]) hx hb dX11_twins_35 hl (by decide) rfl (fun ls hl => ?_)
      refine lv_iconst (v := 0) hx hb dX11_twins_37 (by decide) ?_
      refine lv_istore (lv' := [(5, .int 0), (4, .int (-1)), (3, .int (-1)), (0, .ref (G.1 + 63)), (1, .int x1), (2, .int x2)]) hx hb dX11_twins_38 hl (by decide) rfl (fun ls hl => ?_)
      refine lv_iconst (v := 0) hx hb dX11_twins_40 (by decide) ?_
      refine lv_istore (lv' := [(6, .int 0), (5, .int 0), (4, .int (-1)), (3, .int (-1)), (0, .ref (G.1 + 63)), (1, .int x1), (2, .int x2)]) hx hb dX11_twins_41 hl (by decide) rfl (fun ls hl => ?_)
      obtain ⟨⟨k_51, x3_46, x4_47, x5_48, x6_49, M_50⟩, hq_52, h⟩ := ob h
      try dsimp only at h
      refine loopW (E := (E_Mod_twins_43 G p l e s m _ below meth c _ x1 x2)) (w_Mod_twins_B43 C x1 x2 F) F _ _ hq_52 ?_ _ _ _ hS (lv_sub hl [4, 5, 6, 3, 2, 1, 0] rfl)
      by_cases ek_55 : k_51 = 1
      · replace h := ifp ek_55 h
        subst ek_55
        intro H locs ls hS hl
        refine lv_iload_n hx hb dX11_twins_173 rfl (lv_at hl 0 rfl) ?_
        refine lv_if_ne (tgt := 181) hx hb dX11_twins_174 (by decide) (fun c_53 => ?_) (fun c_53 => ?_)
        · replace h := ifn c_53 h
          refine lv_iload_n hx hb dX11_twins_181 rfl (lv_at hl 0 rfl) ?_
          refine lv_iconst (v := 1) hx hb dX11_twins_182 (by decide) ?_
          refine lv_icmp_ne (tgt := 191) hx hb dX11_twins_183 (by decide) (fun c_54 => ?_) (fun c_54 => ?_)
          · replace h := ifn c_54 h
            refine lv_iload hx hb dX11_twins_191 (lv_at hl 3 rfl) ?_
            exact r_iret C hS hr hlk h dX11_twins_193
          · replace h := ifp c_54 h
            refine lv_iload hx hb dX11_twins_186 (lv_at hl 2 rfl) ?_
            refine lv_goto (tgt := 193) hx hb dX11_twins_188 (by decide) ?_
            exact r_iret C hS hr hlk h dX11_twins_193
        · replace h := ifp c_53 h
          refine lv_iload_n hx hb dX11_twins_177 rfl (lv_at hl 1 rfl) ?_
          refine lv_goto (tgt := 193) hx hb dX11_twins_178 (by decide) ?_
          exact r_iret C hS hr hlk h dX11_twins_193
      · replace h := ifn ek_55 h
        cases h
    · replace h := ifp c_8 h
      refine lv_sipush (v := (-1002)) hx hb dX11_twins_23 (by decide) ?_
      exact r_iret C hS hr hlk h dX11_twins_26
  · replace h := ifp c_4 h
    refine lv_sipush (v := (-1001)) hx hb dX11_twins_7 (by decide) ?_
    exact r_iret C hS hr hlk h dX11_twins_10
set_option maxHeartbeats 4000000 in
set_option maxRecDepth 100000 in
theorem w_Mod_write_J24 {G : Gl} {p : Program} {l : Launch} {e : Env} {s : State} {m : MethodId} {args : Array Value} {below : List Frame} {meth : Method} {c : Code} (C : Cx G cX11_write 2 RX11 p s m args c) (hr : meth.sig.returnType = (some .int)) (hlk : meth.locks = false) (F : Nat) (x1 : Int32) (M : zM)  (q : Int32 × zM) (h : Mod_write_J24 F x1 M = some q) (H : Heap) (locs : List Loc) (ls : Array Slot) (hS : St G M s H locs) (hl : lv_has ls 2 [(0, .ref (G.1 + 63)), (1, .int x1)]) : W p l e (rmM 1 25) s m args below meth c H locs 0 0 (MQ below (PoI G q) args s 0 0 (gA G)) (F0 m 24 ls []) := by
  obtain ⟨hx, hb, -⟩ := id C
  unfold Mod_write_J24 at h
  refine lv_aload_n hx hb dX11_write_24 rfl (lv_at hl 0 rfl) ?_
  refine r_gI C hS fl_X11_245 rfl rfl dX11_write_25 ?_
  refine lv_bipush (v := 60) hx hb dX11_write_28 (by decide) ?_
  refine lv_icmp_ne (tgt := 37) hx hb dX11_write_30 (by decide) (fun c_2 => ?_) (fun c_2 => ?_)
  · replace h := ifn c_2 h
    refine lv_aload_n hx hb dX11_write_37 rfl (lv_at hl 0 rfl) ?_
    refine r_gR C hS fl_X11_109 rfl rfl rfl dX11_write_38 ?_
    refine lv_aload_n hx hb dX11_write_41 rfl (lv_at hl 0 rfl) ?_
    refine r_gI C hS fl_X11_245 rfl rfl dX11_write_42 ?_
    refine lv_iload_n hx hb dX11_write_45 rfl (lv_at hl 1 rfl) ?_
    obtain ⟨b_3, h⟩ := ift h
    obtain ⟨M_4, e_5, h⟩ := olt h
    refine r_iast C hS rfl rfl b_3 e_5 dX11_write_46 (fun H locs hS => ?_)
    refine lv_aload_n hx hb dX11_write_47 rfl (lv_at hl 0 rfl) ?_
    refine lv_dup hx hb dX11_write_48 rfl ?_
    refine r_gI C hS fl_X11_245 rfl rfl dX11_write_49 ?_
    refine lv_iconst (v := 1) hx hb dX11_write_52 (by decide) ?_
    refine lv_iadd hx hb dX11_write_53 ?_
    obtain ⟨M_6, e_7, h⟩ := olt h
    refine r_pI C hS fp_X11_245 rfl rfl e_7 dX11_write_54 (fun H locs hS => ?_)
    refine lv_aload_n hx hb dX11_write_57 rfl (lv_at hl 0 rfl) ?_
    refine r_gI C hS fl_X11_245 rfl rfl dX11_write_58 ?_
    exact r_iret C hS hr hlk h dX11_write_61
  · replace h := ifp c_2 h
    refine lv_sipush (v := (-1004)) hx hb dX11_write_33 (by decide) ?_
    exact r_iret C hS hr hlk h dX11_write_36
set_option maxHeartbeats 4000000 in
set_option maxRecDepth 100000 in
theorem c_X11_write (l : Launch) (G : Gl) (F : Nat) (x1 : Int32) (M : zM)  (q : Int32 × zM) (h : Mod_write F x1 M = some q) : Met l yX11_write (wsM yX11_write cX11_write 2 (some .int)) (rmM 1 25) (Pre G M [.ref (G.1 + 63), .int x1]) (PoI G q) 0 0 (gA G) := by
  refine r_met (own := RX11) rfl (by decide) (Nat.le_of_ble_eq_true rfl) ?_
  intro p e s m below meth c ls C hr hlk hS hl
  have hl : lv_has ls 2 [(0, .ref (G.1 + 63)), (1, .int x1)] := hl
  obtain ⟨hx, hb, -⟩ := id C
  unfold Mod_write at h
  refine lv_iload_n hx hb dX11_write_0 rfl (lv_at hl 1 rfl) ?_
  refine lv_bipush (v := 32) hx hb dX11_write_1 (by decide) ?_
  refine lv_icmp_eq (tgt := 24) hx hb dX11_write_3 (by decide) (fun c_1 => ?_) (fun c_1 => ?_)
  · replace h := ifp c_1 h
    exact w_Mod_write_J24 C hr hlk F x1 M  q h _ _ _ hS (lv_sub hl [0, 1] rfl)
  · replace h := ifn c_1 h
    refine lv_iload_n hx hb dX11_write_6 rfl (lv_at hl 1 rfl) ?_
    refine lv_i2l (v := x1.toInt64) hx hb dX11_write_7 rfl ?_
    refine lv_ldc2 hx hb C.2.2.2.1 (C.2.2.2.2.1 _ tw_1062) dX11_write_8 ?_
    refine lv_ldc2 hx hb C.2.2.2.1 (C.2.2.2.2.1 _ tw_1063) dX11_write_11 ?_
    obtain ⟨⟨r_8, M_9⟩, hq_10, h⟩ := ob h
    try dsimp only at h
    refine r_thenI hS (r_runS C hS hl.1 cs_X11_123 (c_X11_in l G F x1.toInt64 97 122 M  _ hq_10) ⟨by decide, by decide⟩ rfl rfl (Nat.le_of_ble_eq_true rfl) ⟨Nat.zero_le _, Nat.zero_le _⟩ dX11_write_14) (fun H locs hS => ?_)
    refine lv_if_ne (tgt := 24) hx hb dX11_write_17 (by decide) (fun c_11 => ?_) (fun c_11 => ?_)
    · replace h := ifn c_11 h
      exact w_Mod_write_J24 C hr hlk F x1 M_9  q h _ _ _ hS (lv_sub hl [0, 1] rfl)
    · replace h := ifp c_11 h
      refine lv_sipush (v := (-1002)) hx hb dX11_write_20 (by decide) ?_
      exact r_iret C hS hr hlk h dX11_write_23
set_option maxHeartbeats 4000000 in
set_option maxRecDepth 100000 in
theorem c_X11_clear (l : Launch) (G : Gl) (F : Nat)  (M : zM)  (q : Int32 × zM) (h : Mod_clear F  M = some q) : Met l yX11_clear (wsM yX11_clear cX11_clear 2 (some .int)) (rmM 0 0) (Pre G M [.ref (G.1 + 63)]) (PoI G q) 0 0 (gA G) := by
  refine r_met (own := RX11) rfl (by decide) (Nat.le_of_ble_eq_true rfl) ?_
  intro p e s m below meth c ls C hr hlk hS hl
  have hl : lv_has ls 2 [(0, .ref (G.1 + 63))] := hl
  obtain ⟨hx, hb, -⟩ := id C
  unfold Mod_clear at h
  refine lv_aload_n hx hb dX11_clear_0 rfl (lv_at hl 0 rfl) ?_
  refine r_gI C hS fl_X11_245 rfl rfl dX11_clear_1 ?_
  obtain ⟨x1_1, e_2, h⟩ := olt h
  refine r_nI e_2 ?_
  refine lv_istore_n (lv' := [(1, .int x1_1), (0, .ref (G.1 + 63))]) hx hb dX11_clear_4 rfl hl (by decide) rfl (fun ls hl => ?_)
  refine lv_aload_n hx hb dX11_clear_5 rfl (lv_at hl 1 rfl) ?_
  refine lv_iconst (v := 0) hx hb dX11_clear_6 (by decide) ?_
  obtain ⟨M_3, e_4, h⟩ := olt h
  refine r_pI C hS fp_X11_245 rfl rfl e_4 dX11_clear_7 (fun H locs hS => ?_)
  refine lv_iload_n hx hb dX11_clear_10 rfl (lv_at hl 0 rfl) ?_
  exact r_iret C hS hr hlk h dX11_clear_11
def E_Mod_draftRun_4 (G : Gl) (p : Program) (l : Launch) (e : Env) (s : State) (m : MethodId) (args : Array Value) (below : List Frame) (meth : Method) (c : Code) (Q : State → Prop) (a1 : Nat) : Nat → (Int32 × Int32 × zM) → Prop := fun k (x2, x3, M) => match k with
  | 0 => ∀ (H : Heap) (locs : List Loc) (ls : Array Slot), St G M s H locs → lv_has ls 4 [(0, .ref (G.1 + 63)), (1, .ref (G.1 + a1)), (2, .int x2), (3, .int x3)] → W p l e (rmM 0 0) s m args below meth c H locs 0 0 Q (F0 m 4 ls [])
  | 1 => ∀ (H : Heap) (locs : List Loc) (ls : Array Slot), St G M s H locs → lv_has ls 4 [(2, .int x2)] → W p l e (rmM 0 0) s m args below meth c H locs 0 0 Q (F0 m 41 ls [])
  | _ => True
set_option maxHeartbeats 4000000 in
set_option maxRecDepth 100000 in
theorem w_Mod_draftRun_B4 {G : Gl} {p : Program} {l : Launch} {e : Env} {s : State} {m : MethodId} {args : Array Value} {below : List Frame} {meth : Method} {c : Code} {Q : State → Prop} (C : Cx G cX11_draftRun 4 RX11 p s m args c) (a1 : Nat) (k1 : zK a1 = 12) (F : Nat) : ∀ (σ : (Int32 × Int32 × zM)) (q : Nat × (Int32 × Int32 × zM)), Mod_draftRun_B4 F a1 σ = some q → (E_Mod_draftRun_4 G p l e s m args below meth c Q a1) q.1 q.2 → (E_Mod_draftRun_4 G p l e s m args below meth c Q a1) 0 σ := by
  intro (x2, x3, M) q h hE H locs ls hS hl
  obtain ⟨hx, hb, -⟩ := id C
  unfold Mod_draftRun_B4 at h
  try dsimp only at h
  refine lv_iload_n hx hb dX11_draftRun_4 rfl (lv_at hl 3 rfl) ?_
  refine lv_aload_n hx hb dX11_draftRun_5 rfl (lv_at hl 0 rfl) ?_
  refine r_gI C hS fl_X11_245 rfl rfl dX11_draftRun_6 ?_
  refine lv_icmp_ge (tgt := 41) hx hb dX11_draftRun_9 (by decide) (fun c_1 => ?_) (fun c_1 => ?_)
  · replace h := ifp c_1 h
    obtain rfl := Option.some.inj h
    exact hE _ _ _ hS (lv_sub hl [2] rfl)
  · replace h := ifn c_1 h
    refine lv_aload_n hx hb dX11_draftRun_12 rfl (lv_at hl 0 rfl) ?_
    refine r_gR C hS fl_X11_109 rfl rfl rfl dX11_draftRun_13 ?_
    refine lv_iload_n hx hb dX11_draftRun_16 rfl (lv_at hl 3 rfl) ?_
    obtain ⟨b_2, h⟩ := ift h
    refine r_iald C hS rfl rfl b_2 dX11_draftRun_17 ?_
    refine lv_bipush (v := 32) hx hb dX11_draftRun_18 (by decide) ?_
    refine lv_icmp_eq (tgt := 35) hx hb dX11_draftRun_20 (by decide) (fun c_3 => ?_) (fun c_3 => ?_)
    · replace h := ifp c_3 h
      obtain ⟨x3_4, e_5, h⟩ := olt h
      refine lv_iinc (v := x3_4) (lv' := [(3, .int x3_4), (0, .ref (G.1 + 63)), (1, .ref (G.1 + a1)), (2, .int x2)]) hx hb dX11_draftRun_35 hl (k := 3) rfl (by rw [e_5]; rfl) (by decide) rfl (fun ls hl => ?_)
      refine lv_goto (tgt := 4) hx hb dX11_draftRun_38 (by decide) ?_
      obtain rfl := Option.some.inj h
      exact hE _ _ _ hS (lv_sub hl [1, 2, 3, 0] rfl)
    · replace h := ifn c_3 h
      refine lv_aload_n hx hb dX11_draftRun_23 rfl (lv_at hl 1 rfl) ?_
      refine lv_iload_n hx hb dX11_draftRun_24 rfl (lv_at hl 2 rfl) ?_
      refine lv_aload_n hx hb dX11_draftRun_25 rfl (lv_at hl 0 rfl) ?_
      refine r_gR C hS fl_X11_109 rfl rfl rfl dX11_draftRun_26 ?_
      refine lv_iload_n hx hb dX11_draftRun_29 rfl (lv_at hl 3 rfl) ?_
      refine r_iald C hS rfl rfl b_2 dX11_draftRun_30 ?_
      obtain ⟨b_6, h⟩ := ift h
      obtain ⟨M_7, e_8, h⟩ := olt h
      refine r_iast C hS k1 rfl b_6 e_8 dX11_draftRun_31 (fun H locs hS => ?_)
      obtain ⟨x2_9, e_10, h⟩ := olt h
      refine lv_iinc (v := x2_9) (lv' := [(2, .int x2_9), (0, .ref (G.1 + 63)), (1, .ref (G.1 + a1)), (3, .int x3)]) hx hb dX11_draftRun_32 hl (k := 2) rfl (by rw [e_10]; rfl) (by decide) rfl (fun ls hl => ?_)
      obtain ⟨x3_11, e_12, h⟩ := olt h
      refine lv_iinc (v := x3_11) (lv' := [(3, .int x3_11), (2, .int x2_9), (0, .ref (G.1 + 63)), (1, .ref (G.1 + a1))]) hx hb dX11_draftRun_35 hl (k := 3) rfl (by rw [e_12]; rfl) (by decide) rfl (fun ls hl => ?_)
      refine lv_goto (tgt := 4) hx hb dX11_draftRun_38 (by decide) ?_
      obtain rfl := Option.some.inj h
      exact hE _ _ _ hS (lv_sub hl [2, 3, 1, 0] rfl)
set_option maxHeartbeats 4000000 in
set_option maxRecDepth 100000 in
theorem c_X11_draftRun (l : Launch) (G : Gl) (F : Nat) (a1 : Nat) (M : zM) (k1 : zK a1 = 12) (q : Int32 × zM) (h : Mod_draftRun F a1 M = some q) : Met l yX11_draftRun (wsM yX11_draftRun cX11_draftRun 4 (some .int)) (rmM 0 0) (Pre G M [.ref (G.1 + 63), .ref (G.1 + a1)]) (PoI G q) 0 0 (gA G) := by
  refine r_met (own := RX11) rfl (by decide) (Nat.le_of_ble_eq_true rfl) ?_
  intro p e s m below meth c ls C hr hlk hS hl
  have hl : lv_has ls 4 [(0, .ref (G.1 + 63)), (1, .ref (G.1 + a1))] := hl
  obtain ⟨hx, hb, -⟩ := id C
  unfold Mod_draftRun at h
  refine lv_iconst (v := 0) hx hb dX11_draftRun_0 (by decide) ?_
  refine lv_istore_n (lv' := [(2, .int 0), (0, .ref (G.1 + 63)), (1, .ref (G.1 + a1))]) hx hb dX11_draftRun_1 rfl hl (by decide) rfl (fun ls hl => ?_)
  refine lv_iconst (v := 0) hx hb dX11_draftRun_2 (by decide) ?_
  refine lv_istore_n (lv' := [(3, .int 0), (2, .int 0), (0, .ref (G.1 + 63)), (1, .ref (G.1 + a1))]) hx hb dX11_draftRun_3 rfl hl (by decide) rfl (fun ls hl => ?_)
  obtain ⟨⟨k_16, x2_13, x3_14, M_15⟩, hq_17, h⟩ := ob h
  try dsimp only at h
  refine loopW (E := (E_Mod_draftRun_4 G p l e s m _ below meth c _ a1)) (w_Mod_draftRun_B4 C a1 k1 F) F _ _ hq_17 ?_ _ _ _ hS (lv_sub hl [2, 3, 1, 0] rfl)
  by_cases ek_18 : k_16 = 1
  · replace h := ifp ek_18 h
    subst ek_18
    intro H locs ls hS hl
    refine lv_iload_n hx hb dX11_draftRun_41 rfl (lv_at hl 0 rfl) ?_
    exact r_iret C hS hr hlk h dX11_draftRun_42
  · replace h := ifn ek_18 h
    cases h
def E_Mod_isRead_148 (G : Gl) (p : Program) (l : Launch) (e : Env) (s : State) (m : MethodId) (args : Array Value) (below : List Frame) (meth : Method) (c : Code) (Q : State → Prop) (x4 : Int32) : Nat → (Int32 × Int32 × zM) → Prop := fun k (x5, x6, M) => match k with
  | 0 => ∀ (H : Heap) (locs : List Loc) (ls : Array Slot), St G M s H locs → lv_has ls 9 [(0, .ref (G.1 + 63)), (4, .int x4), (5, .int x5), (6, .int x6)] → W p l e (rmM 2 49) s m args below meth c H locs 0 0 Q (F0 m 148 ls [])
  | 1 => ∀ (H : Heap) (locs : List Loc) (ls : Array Slot), St G M s H locs → lv_has ls 9 [(5, .int x5)] → W p l e (rmM 2 49) s m args below meth c H locs 0 0 Q (F0 m 193 ls [])
  | _ => True
set_option maxHeartbeats 4000000 in
set_option maxRecDepth 100000 in
theorem w_Mod_isRead_B148 {G : Gl} {p : Program} {l : Launch} {e : Env} {s : State} {m : MethodId} {args : Array Value} {below : List Frame} {meth : Method} {c : Code} {Q : State → Prop} (C : Cx G cX11_isRead 9 RX11 p s m args c) (x4 : Int32) (F : Nat) : ∀ (σ : (Int32 × Int32 × zM)) (q : Nat × (Int32 × Int32 × zM)), Mod_isRead_B148 F x4 σ = some q → (E_Mod_isRead_148 G p l e s m args below meth c Q x4) q.1 q.2 → (E_Mod_isRead_148 G p l e s m args below meth c Q x4) 0 σ := by
  intro (x5, x6, M) q h hE H locs ls hS hl
  obtain ⟨hx, hb, -⟩ := id C
  unfold Mod_isRead_B148 at h
  try dsimp only at h
  refine lv_iload hx hb dX11_isRead_148 (lv_at hl 3 rfl) ?_
  refine lv_aload_n hx hb dX11_isRead_150 rfl (lv_at hl 0 rfl) ?_
  refine r_gI C hS fl_X11_245 rfl rfl dX11_isRead_151 ?_
  refine lv_icmp_ge (tgt := 193) hx hb dX11_isRead_154 (by decide) (fun c_7 => ?_) (fun c_7 => ?_)
  · replace h := ifp c_7 h
    obtain rfl := Option.some.inj h
    exact hE _ _ _ hS (lv_sub hl [2] rfl)
  · replace h := ifn c_7 h
    refine lv_iload hx hb dX11_isRead_157 (lv_at hl 2 rfl) ?_
    refine lv_if_eq (tgt := 193) hx hb dX11_isRead_159 (by decide) (fun c_8 => ?_) (fun c_8 => ?_)
    · replace h := ifp c_8 h
      obtain rfl := Option.some.inj h
      exact hE _ _ _ hS (lv_sub hl [2] rfl)
    · replace h := ifn c_8 h
      refine lv_aload_n hx hb dX11_isRead_162 rfl (lv_at hl 0 rfl) ?_
      refine lv_iload hx hb dX11_isRead_163 (lv_at hl 1 rfl) ?_
      refine lv_iload hx hb dX11_isRead_165 (lv_at hl 3 rfl) ?_
      obtain ⟨⟨r_9, M_10⟩, hq_11, h⟩ := ob h
      try dsimp only at h
      refine r_thenI hS (r_runV C hS hl.1 cv_X11_222 rfl (c_X11_byteOf l G F x4 x6 M  _ hq_11) ⟨by decide, by decide⟩ rfl rfl (Nat.le_of_ble_eq_true rfl) ⟨Nat.zero_le _, Nat.zero_le _⟩ dX11_isRead_167) (fun H locs hS => ?_)
      refine lv_aload_n hx hb dX11_isRead_170 rfl (lv_at hl 0 rfl) ?_
      refine r_gR C hS fl_X11_109 rfl rfl rfl dX11_isRead_171 ?_
      refine lv_iload hx hb dX11_isRead_174 (lv_at hl 3 rfl) ?_
      obtain ⟨b_12, h⟩ := ift h
      refine r_iald C hS rfl rfl b_12 dX11_isRead_176 ?_
      refine lv_icmp_ne (tgt := 184) hx hb dX11_isRead_177 (by decide) (fun c_13 => ?_) (fun c_13 => ?_)
      · replace h := ifn c_13 h
        refine lv_iconst (v := 0) hx hb dX11_isRead_184 (by decide) ?_
        refine lv_istore (lv' := [(5, .int 0), (0, .ref (G.1 + 63)), (4, .int x4), (6, .int x6)]) hx hb dX11_isRead_185 hl (by decide) rfl (fun ls hl => ?_)
        obtain ⟨x6_14, e_15, h⟩ := olt h
        refine lv_iinc (v := x6_14) (lv' := [(6, .int x6_14), (5, .int 0), (0, .ref (G.1 + 63)), (4, .int x4)]) hx hb dX11_isRead_187 hl (k := 3) rfl (by rw [e_15]; rfl) (by decide) rfl (fun ls hl => ?_)
        refine lv_goto (tgt := 148) hx hb dX11_isRead_190 (by decide) ?_
        obtain rfl := Option.some.inj h
        exact hE _ _ _ hS (lv_sub hl [2, 3, 1, 0] rfl)
      · replace h := ifp c_13 h
        refine lv_iconst (v := 1) hx hb dX11_isRead_180 (by decide) ?_
        refine lv_goto (tgt := 185) hx hb dX11_isRead_181 (by decide) ?_
        refine lv_istore (lv' := [(5, .int 1), (0, .ref (G.1 + 63)), (4, .int x4), (6, .int x6)]) hx hb dX11_isRead_185 hl (by decide) rfl (fun ls hl => ?_)
        obtain ⟨x6_16, e_17, h⟩ := olt h
        refine lv_iinc (v := x6_16) (lv' := [(6, .int x6_16), (5, .int 1), (0, .ref (G.1 + 63)), (4, .int x4)]) hx hb dX11_isRead_187 hl (k := 3) rfl (by rw [e_17]; rfl) (by decide) rfl (fun ls hl => ?_)
        refine lv_goto (tgt := 148) hx hb dX11_isRead_190 (by decide) ?_
        obtain rfl := Option.some.inj h
        exact hE _ _ _ hS (lv_sub hl [2, 3, 1, 0] rfl)
set_option maxHeartbeats 4000000 in
set_option maxRecDepth 100000 in
theorem w_Mod_isRead_J143 {G : Gl} {p : Program} {l : Launch} {e : Env} {s : State} {m : MethodId} {args : Array Value} {below : List Frame} {meth : Method} {c : Code} (C : Cx G cX11_isRead 9 RX11 p s m args c) (hr : meth.sig.returnType = (some .boolean)) (hlk : meth.locks = false) (F : Nat) (x4 : Int32) (y0 : Int32) (M : zM)  (q : Int32 × zM) (h : Mod_isRead_J143 F x4 y0 M = some q) (H : Heap) (locs : List Loc) (ls : Array Slot) (hS : St G M s H locs) (hl : lv_has ls 9 [(0, .ref (G.1 + 63)), (4, .int x4)]) : W p l e (rmM 2 49) s m args below meth c H locs 0 0 (MQ below (PoI G q) args s 0 0 (gA G)) (F0 m 143 ls [.int y0]) := by
  obtain ⟨hx, hb, -⟩ := id C
  unfold Mod_isRead_J143 at h
  refine lv_istore (lv' := [(5, .int y0), (0, .ref (G.1 + 63)), (4, .int x4)]) hx hb dX11_isRead_143 hl (by decide) rfl (fun ls hl => ?_)
  refine lv_iconst (v := 0) hx hb dX11_isRead_145 (by decide) ?_
  refine lv_istore (lv' := [(6, .int 0), (5, .int y0), (0, .ref (G.1 + 63)), (4, .int x4)]) hx hb dX11_isRead_146 hl (by decide) rfl (fun ls hl => ?_)
  obtain ⟨⟨k_21, x5_18, x6_19, M_20⟩, hq_22, h⟩ := ob h
  try dsimp only at h
  refine loopW (E := (E_Mod_isRead_148 G p l e s m _ below meth c _ x4)) (w_Mod_isRead_B148 C x4 F) F _ _ hq_22 ?_ _ _ _ hS (lv_sub hl [2, 3, 1, 0] rfl)
  by_cases ek_23 : k_21 = 1
  · replace h := ifp ek_23 h
    subst ek_23
    intro H locs ls hS hl
    refine lv_iload hx hb dX11_isRead_193 (lv_at hl 0 rfl) ?_
    exact r_zret C hS hr hlk h dX11_isRead_195
  · replace h := ifn ek_23 h
    cases h
set_option maxHeartbeats 4000000 in
set_option maxRecDepth 100000 in
theorem w_Mod_isRead_J142 {G : Gl} {p : Program} {l : Launch} {e : Env} {s : State} {m : MethodId} {args : Array Value} {below : List Frame} {meth : Method} {c : Code} (C : Cx G cX11_isRead 9 RX11 p s m args c) (hr : meth.sig.returnType = (some .boolean)) (hlk : meth.locks = false) (F : Nat) (x4 : Int32) (M : zM)  (q : Int32 × zM) (h : Mod_isRead_J142 F x4 M = some q) (H : Heap) (locs : List Loc) (ls : Array Slot) (hS : St G M s H locs) (hl : lv_has ls 9 [(0, .ref (G.1 + 63)), (4, .int x4)]) : W p l e (rmM 2 49) s m args below meth c H locs 0 0 (MQ below (PoI G q) args s 0 0 (gA G)) (F0 m 142 ls []) := by
  obtain ⟨hx, hb, -⟩ := id C
  unfold Mod_isRead_J142 at h
  refine lv_iconst (v := 0) hx hb dX11_isRead_142 (by decide) ?_
  exact w_Mod_isRead_J143 C hr hlk F x4 0 M  q h _ _ _ hS (lv_sub hl [0, 1] rfl)
def E_Mod_isRead_74 (G : Gl) (p : Program) (l : Launch) (e : Env) (s : State) (m : MethodId) (args : Array Value) (below : List Frame) (meth : Method) (c : Code) (Q : State → Prop) (x6 : Int32) : Nat → (Int32 × Int32 × zM) → Prop := fun k (x5, x8, M) => match k with
  | 0 => ∀ (H : Heap) (locs : List Loc) (ls : Array Slot), St G M s H locs → lv_has ls 9 [(0, .ref (G.1 + 63)), (5, .int x5), (6, .int x6), (8, .int x8)] → W p l e (rmM 2 49) s m args below meth c H locs 0 0 Q (F0 m 74 ls [])
  | 1 => ∀ (H : Heap) (locs : List Loc) (ls : Array Slot), St G M s H locs → lv_has ls 9 [(5, .int x5)] → W p l e (rmM 2 49) s m args below meth c H locs 0 0 Q (F0 m 116 ls [])
  | _ => True
set_option maxHeartbeats 4000000 in
set_option maxRecDepth 100000 in
theorem w_Mod_isRead_B74 {G : Gl} {p : Program} {l : Launch} {e : Env} {s : State} {m : MethodId} {args : Array Value} {below : List Frame} {meth : Method} {c : Code} {Q : State → Prop} (C : Cx G cX11_isRead 9 RX11 p s m args c) (x6 : Int32) (F : Nat) : ∀ (σ : (Int32 × Int32 × zM)) (q : Nat × (Int32 × Int32 × zM)), Mod_isRead_B74 F x6 σ = some q → (E_Mod_isRead_74 G p l e s m args below meth c Q x6) q.1 q.2 → (E_Mod_isRead_74 G p l e s m args below meth c Q x6) 0 σ := by
  intro (x5, x8, M) q h hE H locs ls hS hl
  obtain ⟨hx, hb, -⟩ := id C
  unfold Mod_isRead_B74 at h
  try dsimp only at h
  refine lv_iload hx hb dX11_isRead_74 (lv_at hl 3 rfl) ?_
  refine lv_iload hx hb dX11_isRead_76 (lv_at hl 2 rfl) ?_
  refine lv_icmp_ge (tgt := 116) hx hb dX11_isRead_78 (by decide) (fun c_33 => ?_) (fun c_33 => ?_)
  · replace h := ifp c_33 h
    obtain rfl := Option.some.inj h
    exact hE _ _ _ hS (lv_sub hl [1] rfl)
  · replace h := ifn c_33 h
    refine lv_iload hx hb dX11_isRead_81 (lv_at hl 1 rfl) ?_
    refine lv_if_eq (tgt := 116) hx hb dX11_isRead_83 (by decide) (fun c_34 => ?_) (fun c_34 => ?_)
    · replace h := ifp c_34 h
      obtain rfl := Option.some.inj h
      exact hE _ _ _ hS (lv_sub hl [1] rfl)
    · replace h := ifn c_34 h
      refine lv_aload_n hx hb dX11_isRead_86 rfl (lv_at hl 0 rfl) ?_
      refine r_gR C hS fl_X11_100 rfl rfl rfl dX11_isRead_87 ?_
      refine lv_iload hx hb dX11_isRead_90 (lv_at hl 3 rfl) ?_
      obtain ⟨b_35, h⟩ := ift h
      refine r_iald C hS rfl rfl b_35 dX11_isRead_92 ?_
      refine lv_aload_n hx hb dX11_isRead_93 rfl (lv_at hl 0 rfl) ?_
      refine r_gR C hS fl_X11_103 rfl rfl rfl dX11_isRead_94 ?_
      refine lv_iload hx hb dX11_isRead_97 (lv_at hl 3 rfl) ?_
      refine r_iald C hS rfl rfl b_35 dX11_isRead_99 ?_
      refine lv_icmp_ne (tgt := 107) hx hb dX11_isRead_100 (by decide) (fun c_36 => ?_) (fun c_36 => ?_)
      · replace h := ifn c_36 h
        refine lv_iconst (v := 0) hx hb dX11_isRead_107 (by decide) ?_
        refine lv_istore (lv' := [(5, .int 0), (0, .ref (G.1 + 63)), (6, .int x6), (8, .int x8)]) hx hb dX11_isRead_108 hl (by decide) rfl (fun ls hl => ?_)
        obtain ⟨x8_37, e_38, h⟩ := olt h
        refine lv_iinc (v := x8_37) (lv' := [(8, .int x8_37), (5, .int 0), (0, .ref (G.1 + 63)), (6, .int x6)]) hx hb dX11_isRead_110 hl (k := 3) rfl (by rw [e_38]; rfl) (by decide) rfl (fun ls hl => ?_)
        refine lv_goto (tgt := 74) hx hb dX11_isRead_113 (by decide) ?_
        obtain rfl := Option.some.inj h
        exact hE _ _ _ hS (lv_sub hl [2, 1, 3, 0] rfl)
      · replace h := ifp c_36 h
        refine lv_iconst (v := 1) hx hb dX11_isRead_103 (by decide) ?_
        refine lv_goto (tgt := 108) hx hb dX11_isRead_104 (by decide) ?_
        refine lv_istore (lv' := [(5, .int 1), (0, .ref (G.1 + 63)), (6, .int x6), (8, .int x8)]) hx hb dX11_isRead_108 hl (by decide) rfl (fun ls hl => ?_)
        obtain ⟨x8_39, e_40, h⟩ := olt h
        refine lv_iinc (v := x8_39) (lv' := [(8, .int x8_39), (5, .int 1), (0, .ref (G.1 + 63)), (6, .int x6)]) hx hb dX11_isRead_110 hl (k := 3) rfl (by rw [e_40]; rfl) (by decide) rfl (fun ls hl => ?_)
        refine lv_goto (tgt := 74) hx hb dX11_isRead_113 (by decide) ?_
        obtain rfl := Option.some.inj h
        exact hE _ _ _ hS (lv_sub hl [2, 1, 3, 0] rfl)
set_option maxHeartbeats 4000000 in
set_option maxRecDepth 100000 in
theorem w_Mod_isRead_J69 {G : Gl} {p : Program} {l : Launch} {e : Env} {s : State} {m : MethodId} {args : Array Value} {below : List Frame} {meth : Method} {c : Code} (C : Cx G cX11_isRead 9 RX11 p s m args c) (hr : meth.sig.returnType = (some .boolean)) (hlk : meth.locks = false) (F : Nat) (x6 : Int32) (y0 : Int32) (M : zM)  (q : Int32 × zM) (h : Mod_isRead_J69 F x6 y0 M = some q) (H : Heap) (locs : List Loc) (ls : Array Slot) (hS : St G M s H locs) (hl : lv_has ls 9 [(0, .ref (G.1 + 63)), (6, .int x6)]) : W p l e (rmM 2 49) s m args below meth c H locs 0 0 (MQ below (PoI G q) args s 0 0 (gA G)) (F0 m 69 ls [.int y0]) := by
  obtain ⟨hx, hb, -⟩ := id C
  unfold Mod_isRead_J69 at h
  refine lv_istore (lv' := [(5, .int y0), (0, .ref (G.1 + 63)), (6, .int x6)]) hx hb dX11_isRead_69 hl (by decide) rfl (fun ls hl => ?_)
  refine lv_iconst (v := 0) hx hb dX11_isRead_71 (by decide) ?_
  refine lv_istore (lv' := [(8, .int 0), (5, .int y0), (0, .ref (G.1 + 63)), (6, .int x6)]) hx hb dX11_isRead_72 hl (by decide) rfl (fun ls hl => ?_)
  obtain ⟨⟨k_44, x5_41, x8_42, M_43⟩, hq_45, h⟩ := ob h
  try dsimp only at h
  refine loopW (E := (E_Mod_isRead_74 G p l e s m _ below meth c _ x6)) (w_Mod_isRead_B74 C x6 F) F _ _ hq_45 ?_ _ _ _ hS (lv_sub hl [2, 1, 3, 0] rfl)
  by_cases ek_46 : k_44 = 1
  · replace h := ifp ek_46 h
    subst ek_46
    intro H locs ls hS hl
    refine lv_iload hx hb dX11_isRead_116 (lv_at hl 0 rfl) ?_
    exact r_zret C hS hr hlk h dX11_isRead_118
  · replace h := ifn ek_46 h
    cases h
set_option maxHeartbeats 4000000 in
set_option maxRecDepth 100000 in
theorem w_Mod_isRead_J68 {G : Gl} {p : Program} {l : Launch} {e : Env} {s : State} {m : MethodId} {args : Array Value} {below : List Frame} {meth : Method} {c : Code} (C : Cx G cX11_isRead 9 RX11 p s m args c) (hr : meth.sig.returnType = (some .boolean)) (hlk : meth.locks = false) (F : Nat) (x6 : Int32) (M : zM)  (q : Int32 × zM) (h : Mod_isRead_J68 F x6 M = some q) (H : Heap) (locs : List Loc) (ls : Array Slot) (hS : St G M s H locs) (hl : lv_has ls 9 [(0, .ref (G.1 + 63)), (6, .int x6)]) : W p l e (rmM 2 49) s m args below meth c H locs 0 0 (MQ below (PoI G q) args s 0 0 (gA G)) (F0 m 68 ls []) := by
  obtain ⟨hx, hb, -⟩ := id C
  unfold Mod_isRead_J68 at h
  refine lv_iconst (v := 0) hx hb dX11_isRead_68 (by decide) ?_
  exact w_Mod_isRead_J69 C hr hlk F x6 0 M  q h _ _ _ hS (lv_sub hl [0, 1] rfl)
set_option maxHeartbeats 4000000 in
set_option maxRecDepth 100000 in
theorem w_Mod_isRead_J24 {G : Gl} {p : Program} {l : Launch} {e : Env} {s : State} {m : MethodId} {args : Array Value} {below : List Frame} {meth : Method} {c : Code} (C : Cx G cX11_isRead 9 RX11 p s m args c) (hr : meth.sig.returnType = (some .boolean)) (hlk : meth.locks = false) (F : Nat) (x1 : Int32) (x2 : Int32) (x3 : Int32) (x4 : Int32) (y0 : Int32) (M : zM)  (q : Int32 × zM) (h : Mod_isRead_J24 F x1 x2 x3 x4 y0 M = some q) (H : Heap) (locs : List Loc) (ls : Array Slot) (hS : St G M s H locs) (hl : lv_has ls 9 [(0, .ref (G.1 + 63)), (1, .int x1), (2, .int x2), (3, .int x3), (4, .int x4)]) : W p l e (rmM 2 49) s m args below meth c H locs 0 0 (MQ below (PoI G q) args s 0 0 (gA G)) (F0 m 24 ls [.int y0]) := by
  obtain ⟨hx, hb, -⟩ := id C
  unfold Mod_isRead_J24 at h
  refine lv_istore (lv' := [(5, .int y0), (0, .ref (G.1 + 63)), (1, .int x1), (2, .int x2), (3, .int x3), (4, .int x4)]) hx hb dX11_isRead_24 hl (by decide) rfl (fun ls hl => ?_)
  refine lv_iload_n hx hb dX11_isRead_26 rfl (lv_at hl 4 rfl) ?_
  refine lv_if_eq (tgt := 119) hx hb dX11_isRead_27 (by decide) (fun c_5 => ?_) (fun c_5 => ?_)
  · replace h := ifp c_5 h
    refine lv_iload hx hb dX11_isRead_119 (lv_at hl 0 rfl) ?_
    refine lv_if_eq (tgt := 142) hx hb dX11_isRead_121 (by decide) (fun c_6 => ?_) (fun c_6 => ?_)
    · replace h := ifp c_6 h
      exact w_Mod_isRead_J142 C hr hlk F x4 M  q h _ _ _ hS (lv_sub hl [1, 5] rfl)
    · replace h := ifn c_6 h
      refine lv_aload_n hx hb dX11_isRead_124 rfl (lv_at hl 1 rfl) ?_
      refine r_gR C hS fl_X11_41 rfl rfl rfl dX11_isRead_125 ?_
      refine lv_iload hx hb dX11_isRead_128 (lv_at hl 5 rfl) ?_
      obtain ⟨b_24, h⟩ := ift h
      refine r_iald C hS rfl rfl b_24 dX11_isRead_130 ?_
      refine lv_aload_n hx hb dX11_isRead_131 rfl (lv_at hl 1 rfl) ?_
      refine r_gI C hS fl_X11_245 rfl rfl dX11_isRead_132 ?_
      refine lv_icmp_ne (tgt := 142) hx hb dX11_isRead_135 (by decide) (fun c_25 => ?_) (fun c_25 => ?_)
      · replace h := ifn c_25 h
        exact w_Mod_isRead_J142 C hr hlk F x4 M  q h _ _ _ hS (lv_sub hl [1, 5] rfl)
      · replace h := ifp c_25 h
        refine lv_iconst (v := 1) hx hb dX11_isRead_138 (by decide) ?_
        refine lv_goto (tgt := 143) hx hb dX11_isRead_139 (by decide) ?_
        exact w_Mod_isRead_J143 C hr hlk F x4 1 M  q h _ _ _ hS (lv_sub hl [1, 5] rfl)
  · replace h := ifn c_5 h
    refine lv_aload_n hx hb dX11_isRead_30 rfl (lv_at hl 1 rfl) ?_
    refine lv_iload_n hx hb dX11_isRead_31 rfl (lv_at hl 2 rfl) ?_
    refine lv_iload_n hx hb dX11_isRead_32 rfl (lv_at hl 3 rfl) ?_
    refine lv_aload_n hx hb dX11_isRead_33 rfl (lv_at hl 1 rfl) ?_
    refine r_gR C hS fl_X11_100 rfl rfl rfl dX11_isRead_34 ?_
    obtain ⟨⟨r_26, M_27⟩, hq_28, h⟩ := ob h
    try dsimp only at h
    refine r_thenI hS (r_runV C hS hl.1 cv_X11_265 rfl (c_X11_runOf l G F x1 x2 92 M rfl _ hq_28) ⟨by decide, by decide⟩ rfl rfl (Nat.le_of_ble_eq_true rfl) ⟨Nat.zero_le _, Nat.zero_le _⟩ dX11_isRead_37) (fun H locs hS => ?_)
    refine lv_istore (lv' := [(6, .int r_26), (5, .int y0), (0, .ref (G.1 + 63)), (1, .int x1), (2, .int x2), (3, .int x3), (4, .int x4)]) hx hb dX11_isRead_40 hl (by decide) rfl (fun ls hl => ?_)
    refine lv_aload_n hx hb dX11_isRead_42 rfl (lv_at hl 2 rfl) ?_
    refine lv_aload_n hx hb dX11_isRead_43 rfl (lv_at hl 2 rfl) ?_
    refine r_gR C hS fl_X11_103 rfl rfl rfl dX11_isRead_44 ?_
    obtain ⟨⟨r_29, M_30⟩, hq_31, h⟩ := ob h
    try dsimp only at h
    refine r_thenI hS (r_runV C hS hl.1 cv_X11_277 rfl (c_X11_draftRun l G F 93 M_27 rfl _ hq_31) ⟨by decide, by decide⟩ rfl rfl (Nat.le_of_ble_eq_true rfl) ⟨Nat.zero_le _, Nat.zero_le _⟩ dX11_isRead_47) (fun H locs hS => ?_)
    refine lv_istore (lv' := [(7, .int r_29), (6, .int r_26), (5, .int y0), (0, .ref (G.1 + 63)), (1, .int x1), (2, .int x2), (3, .int x3), (4, .int x4)]) hx hb dX11_isRead_50 hl (by decide) rfl (fun ls hl => ?_)
    refine lv_iload hx hb dX11_isRead_52 (lv_at hl 2 rfl) ?_
    refine lv_if_eq (tgt := 68) hx hb dX11_isRead_54 (by decide) (fun c_32 => ?_) (fun c_32 => ?_)
    · replace h := ifp c_32 h
      exact w_Mod_isRead_J68 C hr hlk F r_26 M_30  q h _ _ _ hS (lv_sub hl [3, 1] rfl)
    · replace h := ifn c_32 h
      refine lv_iload hx hb dX11_isRead_57 (lv_at hl 1 rfl) ?_
      refine lv_iload hx hb dX11_isRead_59 (lv_at hl 0 rfl) ?_
      refine lv_icmp_ne (tgt := 68) hx hb dX11_isRead_61 (by decide) (fun c_47 => ?_) (fun c_47 => ?_)
      · replace h := ifn c_47 h
        exact w_Mod_isRead_J68 C hr hlk F r_26 M_30  q h _ _ _ hS (lv_sub hl [3, 1] rfl)
      · replace h := ifp c_47 h
        refine lv_iconst (v := 1) hx hb dX11_isRead_64 (by decide) ?_
        refine lv_goto (tgt := 69) hx hb dX11_isRead_65 (by decide) ?_
        exact w_Mod_isRead_J69 C hr hlk F r_26 1 M_30  q h _ _ _ hS (lv_sub hl [3, 1] rfl)
set_option maxHeartbeats 4000000 in
set_option maxRecDepth 100000 in
theorem c_X11_isRead (l : Launch) (G : Gl) (F : Nat) (x1 : Int32) (x2 : Int32) (x3 : Int32) (M : zM)  (q : Int32 × zM) (h : Mod_isRead F x1 x2 x3 M = some q) : Met l yX11_isRead (wsM yX11_isRead cX11_isRead 9 (some .boolean)) (rmM 2 49) (Pre G M [.ref (G.1 + 63), .int x1, .int x2, .int x3]) (PoI G q) 0 0 (gA G) := by
  refine r_met (own := RX11) rfl (by decide) (Nat.le_of_ble_eq_true rfl) ?_
  intro p e s m below meth c ls C hr hlk hS hl
  have hl : lv_has ls 9 [(0, .ref (G.1 + 63)), (1, .int x1), (2, .int x2), (3, .int x3)] := hl
  obtain ⟨hx, hb, -⟩ := id C
  unfold Mod_isRead at h
  refine lv_sipush (v := 1000) hx hb dX11_isRead_0 (by decide) ?_
  refine lv_iload_n hx hb dX11_isRead_3 rfl (lv_at hl 1 rfl) ?_
  refine lv_imul hx hb dX11_isRead_4 ?_
  refine lv_iload_n hx hb dX11_isRead_5 rfl (lv_at hl 2 rfl) ?_
  refine lv_iadd hx hb dX11_isRead_6 ?_
  obtain ⟨x4_1, e_2, h⟩ := olt h
  refine r_nI e_2 ?_
  refine lv_istore (lv' := [(4, .int x4_1), (0, .ref (G.1 + 63)), (1, .int x1), (2, .int x2), (3, .int x3)]) hx hb dX11_isRead_7 hl (by decide) rfl (fun ls hl => ?_)
  refine lv_aload_n hx hb dX11_isRead_9 rfl (lv_at hl 1 rfl) ?_
  refine r_gR C hS fl_X11_41 rfl rfl rfl dX11_isRead_10 ?_
  refine lv_iload hx hb dX11_isRead_13 (lv_at hl 0 rfl) ?_
  obtain ⟨b_3, h⟩ := ift h
  refine r_iald C hS rfl rfl b_3 dX11_isRead_15 ?_
  refine lv_if_lt (tgt := 23) hx hb dX11_isRead_16 (by decide) (fun c_4 => ?_) (fun c_4 => ?_)
  · replace h := ifp c_4 h
    refine lv_iconst (v := 0) hx hb dX11_isRead_23 (by decide) ?_
    exact w_Mod_isRead_J24 C hr hlk F x1 x2 x3 x4_1 0 M  q h _ _ _ hS (lv_sub hl [1, 2, 3, 4, 0] rfl)
  · replace h := ifn c_4 h
    refine lv_iconst (v := 1) hx hb dX11_isRead_19 (by decide) ?_
    refine lv_goto (tgt := 24) hx hb dX11_isRead_20 (by decide) ?_
    exact w_Mod_isRead_J24 C hr hlk F x1 x2 x3 x4_1 1 M  q h _ _ _ hS (lv_sub hl [1, 2, 3, 4, 0] rfl)
def E_Mod_found_6 (G : Gl) (p : Program) (l : Launch) (e : Env) (s : State) (m : MethodId) (args : Array Value) (below : List Frame) (meth : Method) (c : Code) (Q : State → Prop) (x1 : Int32) (x2 : Int32) (x3 : Int32) : Nat → (Int32 × Int32 × zM) → Prop := fun k (x4, x5, M) => match k with
  | 0 => ∀ (H : Heap) (locs : List Loc) (ls : Array Slot), St G M s H locs → lv_has ls 6 [(0, .ref (G.1 + 63)), (1, .int x1), (2, .int x2), (3, .int x3), (4, .int x4), (5, .int x5)] → W p l e (rmM 3 77) s m args below meth c H locs 0 0 Q (F0 m 6 ls [])
  | 1 => ∀ (H : Heap) (locs : List Loc) (ls : Array Slot), St G M s H locs → lv_has ls 6 [(5, .int x5)] → W p l e (rmM 3 77) s m args below meth c H locs 0 0 Q (F0 m 31 ls [])
  | 2 => ∀ (H : Heap) (locs : List Loc) (ls : Array Slot), St G M s H locs → lv_has ls 6 [(3, .int x3), (4, .int x4)] → W p l e (rmM 3 77) s m args below meth c H locs 0 0 Q (F0 m 43 ls [])
  | _ => True
set_option maxHeartbeats 4000000 in
set_option maxRecDepth 100000 in
theorem w_Mod_found_B6 {G : Gl} {p : Program} {l : Launch} {e : Env} {s : State} {m : MethodId} {args : Array Value} {below : List Frame} {meth : Method} {c : Code} {Q : State → Prop} (C : Cx G cX11_found 6 RX11 p s m args c) (x1 : Int32) (x2 : Int32) (x3 : Int32) (F : Nat) : ∀ (σ : (Int32 × Int32 × zM)) (q : Nat × (Int32 × Int32 × zM)), Mod_found_B6 F x1 x2 x3 σ = some q → (E_Mod_found_6 G p l e s m args below meth c Q x1 x2 x3) q.1 q.2 → (E_Mod_found_6 G p l e s m args below meth c Q x1 x2 x3) 0 σ := by
  intro (x4, x5, M) q h hE H locs ls hS hl
  obtain ⟨hx, hb, -⟩ := id C
  unfold Mod_found_B6 at h
  try dsimp only at h
  refine lv_iload hx hb dX11_found_6 (lv_at hl 5 rfl) ?_
  refine lv_sipush (v := 1000) hx hb dX11_found_8 (by decide) ?_
  refine lv_icmp_ge (tgt := 43) hx hb dX11_found_11 (by decide) (fun c_1 => ?_) (fun c_1 => ?_)
  · replace h := ifp c_1 h
    obtain rfl := Option.some.inj h
    exact hE _ _ _ hS (lv_sub hl [3, 4] rfl)
  · replace h := ifn c_1 h
    refine lv_aload_n hx hb dX11_found_14 rfl (lv_at hl 0 rfl) ?_
    refine lv_iload_n hx hb dX11_found_15 rfl (lv_at hl 1 rfl) ?_
    refine lv_iload hx hb dX11_found_16 (lv_at hl 5 rfl) ?_
    refine lv_iload_n hx hb dX11_found_18 rfl (lv_at hl 2 rfl) ?_
    obtain ⟨⟨r_2, M_3⟩, hq_4, h⟩ := ob h
    try dsimp only at h
    refine r_thenI hS (r_runV C hS hl.1 cv_X11_281 rfl (c_X11_isRead l G F x1 x5 x2 M  _ hq_4) ⟨by decide, by decide⟩ rfl rfl (Nat.le_of_ble_eq_true rfl) ⟨Nat.zero_le _, Nat.zero_le _⟩ dX11_found_19) (fun H locs hS => ?_)
    refine lv_if_eq (tgt := 37) hx hb dX11_found_22 (by decide) (fun c_5 => ?_) (fun c_5 => ?_)
    · replace h := ifp c_5 h
      obtain ⟨x5_6, e_7, h⟩ := olt h
      refine lv_iinc (v := x5_6) (lv' := [(5, .int x5_6), (0, .ref (G.1 + 63)), (1, .int x1), (2, .int x2), (3, .int x3), (4, .int x4)]) hx hb dX11_found_37 hl (k := 5) rfl (by rw [e_7]; rfl) (by decide) rfl (fun ls hl => ?_)
      refine lv_goto (tgt := 6) hx hb dX11_found_40 (by decide) ?_
      obtain rfl := Option.some.inj h
      exact hE _ _ _ hS (lv_sub hl [1, 2, 3, 4, 5, 0] rfl)
    · replace h := ifn c_5 h
      refine lv_iload hx hb dX11_found_25 (lv_at hl 4 rfl) ?_
      refine lv_iload_n hx hb dX11_found_27 rfl (lv_at hl 3 rfl) ?_
      refine lv_icmp_ne (tgt := 34) hx hb dX11_found_28 (by decide) (fun c_8 => ?_) (fun c_8 => ?_)
      · replace h := ifn c_8 h
        obtain ⟨x4_9, e_10, h⟩ := olt h
        refine lv_iinc (v := x4_9) (lv' := [(4, .int x4_9), (0, .ref (G.1 + 63)), (1, .int x1), (2, .int x2), (3, .int x3), (5, .int x5)]) hx hb dX11_found_34 hl (k := 4) rfl (by rw [e_10]; rfl) (by decide) rfl (fun ls hl => ?_)
        obtain ⟨x5_11, e_12, h⟩ := olt h
        refine lv_iinc (v := x5_11) (lv' := [(5, .int x5_11), (4, .int x4_9), (0, .ref (G.1 + 63)), (1, .int x1), (2, .int x2), (3, .int x3)]) hx hb dX11_found_37 hl (k := 5) rfl (by rw [e_12]; rfl) (by decide) rfl (fun ls hl => ?_)
        refine lv_goto (tgt := 6) hx hb dX11_found_40 (by decide) ?_
        obtain rfl := Option.some.inj h
        exact hE _ _ _ hS (lv_sub hl [2, 3, 4, 5, 1, 0] rfl)
      · replace h := ifp c_8 h
        obtain rfl := Option.some.inj h
        exact hE _ _ _ hS (lv_sub hl [5] rfl)
set_option maxHeartbeats 4000000 in
set_option maxRecDepth 100000 in
theorem c_X11_found (l : Launch) (G : Gl) (F : Nat) (x1 : Int32) (x2 : Int32) (x3 : Int32) (M : zM)  (q : Int32 × zM) (h : Mod_found F x1 x2 x3 M = some q) : Met l yX11_found (wsM yX11_found cX11_found 6 (some .int)) (rmM 3 77) (Pre G M [.ref (G.1 + 63), .int x1, .int x2, .int x3]) (PoI G q) 0 0 (gA G) := by
  refine r_met (own := RX11) rfl (by decide) (Nat.le_of_ble_eq_true rfl) ?_
  intro p e s m below meth c ls C hr hlk hS hl
  have hl : lv_has ls 6 [(0, .ref (G.1 + 63)), (1, .int x1), (2, .int x2), (3, .int x3)] := hl
  obtain ⟨hx, hb, -⟩ := id C
  unfold Mod_found at h
  refine lv_iconst (v := 0) hx hb dX11_found_0 (by decide) ?_
  refine lv_istore (lv' := [(4, .int 0), (0, .ref (G.1 + 63)), (1, .int x1), (2, .int x2), (3, .int x3)]) hx hb dX11_found_1 hl (by decide) rfl (fun ls hl => ?_)
  refine lv_iconst (v := 0) hx hb dX11_found_3 (by decide) ?_
  refine lv_istore (lv' := [(5, .int 0), (4, .int 0), (0, .ref (G.1 + 63)), (1, .int x1), (2, .int x2), (3, .int x3)]) hx hb dX11_found_4 hl (by decide) rfl (fun ls hl => ?_)
  obtain ⟨⟨k_16, x4_13, x5_14, M_15⟩, hq_17, h⟩ := ob h
  try dsimp only at h
  refine loopW (E := (E_Mod_found_6 G p l e s m _ below meth c _ x1 x2 x3)) (w_Mod_found_B6 C x1 x2 x3 F) F _ _ hq_17 ?_ _ _ _ hS (lv_sub hl [2, 3, 4, 5, 1, 0] rfl)
  by_cases ek_20 : k_16 = 1
  · replace h := ifp ek_20 h
    subst ek_20
    intro H locs ls hS hl
    refine lv_iload hx hb dX11_found_31 (lv_at hl 0 rfl) ?_
    exact r_iret C hS hr hlk h dX11_found_33
  · replace h := ifn ek_20 h
    by_cases ek_19 : k_16 = 2
    · replace h := ifp ek_19 h
      subst ek_19
      intro H locs ls hS hl
      refine lv_iload_n hx hb dX11_found_43 rfl (lv_at hl 0 rfl) ?_
      refine lv_iconst (v := (-1)) hx hb dX11_found_44 (by decide) ?_
      refine lv_icmp_ne (tgt := 53) hx hb dX11_found_45 (by decide) (fun c_18 => ?_) (fun c_18 => ?_)
      · replace h := ifn c_18 h
        refine lv_iconst (v := (-1)) hx hb dX11_found_53 (by decide) ?_
        exact r_iret C hS hr hlk h dX11_found_54
      · replace h := ifp c_18 h
        refine lv_iload hx hb dX11_found_48 (lv_at hl 1 rfl) ?_
        refine lv_goto (tgt := 54) hx hb dX11_found_50 (by decide) ?_
        exact r_iret C hS hr hlk h dX11_found_54
    · replace h := ifn ek_19 h
      cases h
set_option maxHeartbeats 4000000 in
set_option maxRecDepth 100000 in
theorem c_X11_find (l : Launch) (G : Gl) (F : Nat) (x1 : Int32) (x2 : Int32) (x3 : Int32) (M : zM)  (q : Int32 × zM) (h : Mod_find F x1 x2 x3 M = some q) : Met l yX11_find (wsM yX11_find cX11_find 4 (some .int)) (rmM 4 102) (Pre G M [.ref (G.1 + 63), .int x1, .int x2, .int x3]) (PoI G q) 0 0 (gA G) := by
  refine r_met (own := RX11) rfl (by decide) (Nat.le_of_ble_eq_true rfl) ?_
  intro p e s m below meth c ls C hr hlk hS hl
  have hl : lv_has ls 4 [(0, .ref (G.1 + 63)), (1, .int x1), (2, .int x2), (3, .int x3)] := hl
  obtain ⟨hx, hb, -⟩ := id C
  unfold Mod_find at h
  refine lv_iload_n hx hb dX11_find_0 rfl (lv_at hl 1 rfl) ?_
  obtain ⟨⟨r_1, M_2⟩, hq_3, h⟩ := ob h
  try dsimp only at h
  refine r_thenI hS (r_runS C hS hl.1 cs_X11_194 (c_X11_isTongue l G F x1 M  _ hq_3) ⟨by decide, by decide⟩ rfl rfl (Nat.le_of_ble_eq_true rfl) ⟨Nat.zero_le _, Nat.zero_le _⟩ dX11_find_1) (fun H locs hS => ?_)
  refine lv_if_eq (tgt := 17) hx hb dX11_find_4 (by decide) (fun c_4 => ?_) (fun c_4 => ?_)
  · replace h := ifp c_4 h
    refine lv_sipush (v := (-1001)) hx hb dX11_find_17 (by decide) ?_
    exact r_iret C hS hr hlk h dX11_find_20
  · replace h := ifn c_4 h
    refine lv_aload_n hx hb dX11_find_7 rfl (lv_at hl 0 rfl) ?_
    refine lv_iload_n hx hb dX11_find_8 rfl (lv_at hl 1 rfl) ?_
    refine lv_iload_n hx hb dX11_find_9 rfl (lv_at hl 2 rfl) ?_
    refine lv_iload_n hx hb dX11_find_10 rfl (lv_at hl 3 rfl) ?_
    obtain ⟨⟨r_5, M_6⟩, hq_7, h⟩ := ob h
    try dsimp only at h
    refine r_thenI hS (r_runV C hS hl.1 cv_X11_285 rfl (c_X11_found l G F x1 x2 x3 M_2  _ hq_7) ⟨by decide, by decide⟩ rfl rfl (Nat.le_of_ble_eq_true rfl) ⟨Nat.zero_le _, Nat.zero_le _⟩ dX11_find_11) (fun H locs hS => ?_)
    refine lv_goto (tgt := 20) hx hb dX11_find_14 (by decide) ?_
    exact r_iret C hS hr hlk h dX11_find_20
def E_Mod_distance_2 (G : Gl) (p : Program) (l : Launch) (e : Env) (s : State) (m : MethodId) (args : Array Value) (below : List Frame) (meth : Method) (c : Code) (Q : State → Prop) (x1 : Int32) (x2 : Int32) : Nat → (Int32 × zM) → Prop := fun k (x3, M) => match k with
  | 0 => ∀ (H : Heap) (locs : List Loc) (ls : Array Slot), St G M s H locs → lv_has ls 8 [(0, .ref (G.1 + 63)), (1, .int x1), (2, .int x2), (3, .int x3)] → W p l e (rmM 0 0) s m args below meth c H locs 0 0 Q (F0 m 2 ls [])
  | 1 => ∀ (H : Heap) (locs : List Loc) (ls : Array Slot), St G M s H locs → lv_has ls 8 [(0, .ref (G.1 + 63)), (1, .int x1), (2, .int x2)] → W p l e (rmM 0 0) s m args below meth c H locs 0 0 Q (F0 m 20 ls [])
  | _ => True
set_option maxHeartbeats 4000000 in
set_option maxRecDepth 100000 in
theorem w_Mod_distance_B2 {G : Gl} {p : Program} {l : Launch} {e : Env} {s : State} {m : MethodId} {args : Array Value} {below : List Frame} {meth : Method} {c : Code} {Q : State → Prop} (C : Cx G cX11_distance 8 RX11 p s m args c) (x1 : Int32) (x2 : Int32) (F : Nat) : ∀ (σ : (Int32 × zM)) (q : Nat × (Int32 × zM)), Mod_distance_B2 F x1 x2 σ = some q → (E_Mod_distance_2 G p l e s m args below meth c Q x1 x2) q.1 q.2 → (E_Mod_distance_2 G p l e s m args below meth c Q x1 x2) 0 σ := by
  intro (x3, M) q h hE H locs ls hS hl
  obtain ⟨hx, hb, -⟩ := id C
  unfold Mod_distance_B2 at h
  try dsimp only at h
  refine lv_iload_n hx hb dX11_distance_2 rfl (lv_at hl 3 rfl) ?_
  refine lv_iload_n hx hb dX11_distance_3 rfl (lv_at hl 2 rfl) ?_
  refine lv_icmp_gt (tgt := 20) hx hb dX11_distance_4 (by decide) (fun c_1 => ?_) (fun c_1 => ?_)
  · replace h := ifp c_1 h
    obtain rfl := Option.some.inj h
    exact hE _ _ _ hS (lv_sub hl [0, 1, 2] rfl)
  · replace h := ifn c_1 h
    refine lv_aload_n hx hb dX11_distance_7 rfl (lv_at hl 0 rfl) ?_
    refine r_gR C hS fl_X11_112 rfl rfl rfl dX11_distance_8 ?_
    refine lv_iload_n hx hb dX11_distance_11 rfl (lv_at hl 3 rfl) ?_
    refine lv_iload_n hx hb dX11_distance_12 rfl (lv_at hl 3 rfl) ?_
    obtain ⟨b_2, h⟩ := ift h
    obtain ⟨M_3, e_4, h⟩ := olt h
    refine r_iast C hS rfl rfl b_2 e_4 dX11_distance_13 (fun H locs hS => ?_)
    obtain ⟨x3_5, e_6, h⟩ := olt h
    refine lv_iinc (v := x3_5) (lv' := [(3, .int x3_5), (0, .ref (G.1 + 63)), (1, .int x1), (2, .int x2)]) hx hb dX11_distance_14 hl (k := 3) rfl (by rw [e_6]; rfl) (by decide) rfl (fun ls hl => ?_)
    refine lv_goto (tgt := 2) hx hb dX11_distance_17 (by decide) ?_
    obtain rfl := Option.some.inj h
    exact hE _ _ _ hS (lv_sub hl [1, 2, 3, 0] rfl)
def E_Mod_distance_22 (G : Gl) (p : Program) (l : Launch) (e : Env) (s : State) (m : MethodId) (args : Array Value) (below : List Frame) (meth : Method) (c : Code) (Q : State → Prop) (x1 : Int32) (x2 : Int32) : Nat → (Int32 × zM) → Prop := fun k (x3, M) => match k with
  | 0 => ∀ (H : Heap) (locs : List Loc) (ls : Array Slot), St G M s H locs → lv_has ls 8 [(0, .ref (G.1 + 63)), (1, .int x1), (2, .int x2), (3, .int x3)] → W p l e (rmM 0 0) s m args below meth c H locs 0 0 Q (F0 m 22 ls [])
  | 1 => ∀ (H : Heap) (locs : List Loc) (ls : Array Slot), St G M s H locs → lv_has ls 8 [(0, .ref (G.1 + 63)), (2, .int x2)] → W p l e (rmM 0 0) s m args below meth c H locs 0 0 Q (F0 m 169 ls [])
  | _ => True
def E_Mod_distance_45 (G : Gl) (p : Program) (l : Launch) (e : Env) (s : State) (m : MethodId) (args : Array Value) (below : List Frame) (meth : Method) (c : Code) (Q : State → Prop) (x1 : Int32) (x2 : Int32) (x3 : Int32) : Nat → (Int32 × Int32 × zM) → Prop := fun k (x4, x5, M) => match k with
  | 0 => ∀ (H : Heap) (locs : List Loc) (ls : Array Slot), St G M s H locs → lv_has ls 8 [(0, .ref (G.1 + 63)), (1, .int x1), (2, .int x2), (3, .int x3), (4, .int x4), (5, .int x5)] → W p l e (rmM 0 0) s m args below meth c H locs 0 0 Q (F0 m 45 ls [])
  | 1 => ∀ (H : Heap) (locs : List Loc) (ls : Array Slot), St G M s H locs → lv_has ls 8 [(0, .ref (G.1 + 63)), (1, .int x1), (2, .int x2), (3, .int x3)] → W p l e (rmM 0 0) s m args below meth c H locs 0 0 Q (F0 m 163 ls [])
  | _ => True
set_option maxHeartbeats 4000000 in
set_option maxRecDepth 100000 in
theorem w_Mod_distance_J142 {G : Gl} {p : Program} {l : Launch} {e : Env} {s : State} {m : MethodId} {args : Array Value} {below : List Frame} {meth : Method} {c : Code} {Q : State → Prop} (C : Cx G cX11_distance 8 RX11 p s m args c) (x1 : Int32) (x2 : Int32) (x3 : Int32) (F : Nat) (x5 : Int32) (x6 : Int32) (y0 : Int32) (M : zM)  (q : Nat × (Int32 × Int32 × zM)) (h : Mod_distance_J142 F x1 x2 x3 x5 x6 y0 M = some q) (hE : (E_Mod_distance_45 G p l e s m args below meth c Q x1 x2 x3) q.1 q.2) (H : Heap) (locs : List Loc) (ls : Array Slot) (hS : St G M s H locs) (hl : lv_has ls 8 [(0, .ref (G.1 + 63)), (1, .int x1), (2, .int x2), (3, .int x3), (5, .int x5), (6, .int x6)]) : W p l e (rmM 0 0) s m args below meth c H locs 0 0 Q (F0 m 142 ls [.int y0]) := by
  obtain ⟨hx, hb, -⟩ := id C
  unfold Mod_distance_J142 at h
  refine lv_istore (lv' := [(7, .int y0), (0, .ref (G.1 + 63)), (1, .int x1), (2, .int x2), (3, .int x3), (5, .int x5), (6, .int x6)]) hx hb dX11_distance_142 hl (by decide) rfl (fun ls hl => ?_)
  refine lv_aload_n hx hb dX11_distance_144 rfl (lv_at hl 1 rfl) ?_
  refine r_gR C hS fl_X11_112 rfl rfl rfl dX11_distance_145 ?_
  refine lv_iload hx hb dX11_distance_148 (lv_at hl 5 rfl) ?_
  refine lv_iload hx hb dX11_distance_150 (lv_at hl 0 rfl) ?_
  obtain ⟨b_29, h⟩ := ift h
  obtain ⟨M_30, e_31, h⟩ := olt h
  refine r_iast C hS rfl rfl b_29 e_31 dX11_distance_152 (fun H locs hS => ?_)
  refine lv_iload hx hb dX11_distance_153 (lv_at hl 6 rfl) ?_
  refine lv_istore (lv' := [(4, .int x6), (7, .int y0), (0, .ref (G.1 + 63)), (1, .int x1), (2, .int x2), (3, .int x3), (5, .int x5), (6, .int x6)]) hx hb dX11_distance_155 hl (by decide) rfl (fun ls hl => ?_)
  obtain ⟨x5_32, e_33, h⟩ := olt h
  refine lv_iinc (v := x5_32) (lv' := [(5, .int x5_32), (4, .int x6), (7, .int y0), (0, .ref (G.1 + 63)), (1, .int x1), (2, .int x2), (3, .int x3), (6, .int x6)]) hx hb dX11_distance_157 hl (k := 6) rfl (by rw [e_33]; rfl) (by decide) rfl (fun ls hl => ?_)
  refine lv_goto (tgt := 45) hx hb dX11_distance_160 (by decide) ?_
  obtain rfl := Option.some.inj h
  exact hE _ _ _ hS (lv_sub hl [3, 4, 5, 6, 1, 0] rfl)
set_option maxHeartbeats 4000000 in
set_option maxRecDepth 100000 in
theorem w_Mod_distance_J108 {G : Gl} {p : Program} {l : Launch} {e : Env} {s : State} {m : MethodId} {args : Array Value} {below : List Frame} {meth : Method} {c : Code} {Q : State → Prop} (C : Cx G cX11_distance 8 RX11 p s m args c) (x1 : Int32) (x2 : Int32) (x3 : Int32) (F : Nat) (x5 : Int32) (x6 : Int32) (y0 : Int32) (M : zM)  (q : Nat × (Int32 × Int32 × zM)) (h : Mod_distance_J108 F x1 x2 x3 x5 x6 y0 M = some q) (hE : (E_Mod_distance_45 G p l e s m args below meth c Q x1 x2 x3) q.1 q.2) (H : Heap) (locs : List Loc) (ls : Array Slot) (hS : St G M s H locs) (hl : lv_has ls 8 [(0, .ref (G.1 + 63)), (1, .int x1), (2, .int x2), (3, .int x3), (5, .int x5), (6, .int x6)]) : W p l e (rmM 0 0) s m args below meth c H locs 0 0 Q (F0 m 108 ls [.int y0]) := by
  obtain ⟨hx, hb, -⟩ := id C
  unfold Mod_distance_J108 at h
  refine lv_istore (lv' := [(7, .int y0), (0, .ref (G.1 + 63)), (1, .int x1), (2, .int x2), (3, .int x3), (5, .int x5), (6, .int x6)]) hx hb dX11_distance_108 hl (by decide) rfl (fun ls hl => ?_)
  refine lv_aload_n hx hb dX11_distance_110 rfl (lv_at hl 1 rfl) ?_
  refine r_gR C hS fl_X11_112 rfl rfl rfl dX11_distance_111 ?_
  refine lv_iload hx hb dX11_distance_114 (lv_at hl 5 rfl) ?_
  refine lv_iconst (v := 1) hx hb dX11_distance_116 (by decide) ?_
  refine lv_isub hx hb dX11_distance_117 ?_
  obtain ⟨b_27, h⟩ := ift h
  refine r_iald C hS rfl rfl b_27 dX11_distance_118 ?_
  refine lv_iconst (v := 1) hx hb dX11_distance_119 (by decide) ?_
  refine lv_iadd hx hb dX11_distance_120 ?_
  refine lv_iload hx hb dX11_distance_121 (lv_at hl 0 rfl) ?_
  refine lv_icmp_ge (tgt := 140) hx hb dX11_distance_123 (by decide) (fun c_28 => ?_) (fun c_28 => ?_)
  · replace h := ifp c_28 h
    refine lv_iload hx hb dX11_distance_140 (lv_at hl 0 rfl) ?_
    exact w_Mod_distance_J142 C x1 x2 x3 F x5 x6 y0 M  q h hE _ _ _ hS (lv_sub hl [1, 2, 3, 4, 5, 6] rfl)
  · replace h := ifn c_28 h
    refine lv_aload_n hx hb dX11_distance_126 rfl (lv_at hl 1 rfl) ?_
    refine r_gR C hS fl_X11_112 rfl rfl rfl dX11_distance_127 ?_
    refine lv_iload hx hb dX11_distance_130 (lv_at hl 5 rfl) ?_
    refine lv_iconst (v := 1) hx hb dX11_distance_132 (by decide) ?_
    refine lv_isub hx hb dX11_distance_133 ?_
    refine r_iald C hS rfl rfl b_27 dX11_distance_134 ?_
    refine lv_iconst (v := 1) hx hb dX11_distance_135 (by decide) ?_
    refine lv_iadd hx hb dX11_distance_136 ?_
    refine lv_goto (tgt := 142) hx hb dX11_distance_137 (by decide) ?_
    exact w_Mod_distance_J142 C x1 x2 x3 F x5 x6 ((M.1 96 (x5 - 1).toNatClampNeg) + 1) M  q h hE _ _ _ hS (lv_sub hl [1, 2, 3, 4, 5, 6] rfl)
set_option maxHeartbeats 4000000 in
set_option maxRecDepth 100000 in
theorem w_Mod_distance_J87 {G : Gl} {p : Program} {l : Launch} {e : Env} {s : State} {m : MethodId} {args : Array Value} {below : List Frame} {meth : Method} {c : Code} {Q : State → Prop} (C : Cx G cX11_distance 8 RX11 p s m args c) (x1 : Int32) (x2 : Int32) (x3 : Int32) (F : Nat) (x5 : Int32) (x6 : Int32) (y0 : Int32) (y1 : Int32) (M : zM)  (q : Nat × (Int32 × Int32 × zM)) (h : Mod_distance_J87 F x1 x2 x3 x5 x6 y0 y1 M = some q) (hE : (E_Mod_distance_45 G p l e s m args below meth c Q x1 x2 x3) q.1 q.2) (H : Heap) (locs : List Loc) (ls : Array Slot) (hS : St G M s H locs) (hl : lv_has ls 8 [(0, .ref (G.1 + 63)), (1, .int x1), (2, .int x2), (3, .int x3), (5, .int x5), (6, .int x6)]) : W p l e (rmM 0 0) s m args below meth c H locs 0 0 Q (F0 m 87 ls [.int y1, .int y0]) := by
  obtain ⟨hx, hb, -⟩ := id C
  unfold Mod_distance_J87 at h
  refine lv_iadd hx hb dX11_distance_87 ?_
  obtain ⟨x7_24, e_25, h⟩ := olt h
  refine r_nI e_25 ?_
  refine lv_istore (lv' := [(7, .int x7_24), (0, .ref (G.1 + 63)), (1, .int x1), (2, .int x2), (3, .int x3), (5, .int x5), (6, .int x6)]) hx hb dX11_distance_88 hl (by decide) rfl (fun ls hl => ?_)
  refine lv_iload hx hb dX11_distance_90 (lv_at hl 6 rfl) ?_
  refine lv_iconst (v := 1) hx hb dX11_distance_92 (by decide) ?_
  refine lv_iadd hx hb dX11_distance_93 ?_
  refine lv_iload hx hb dX11_distance_94 (lv_at hl 0 rfl) ?_
  refine lv_icmp_ge (tgt := 106) hx hb dX11_distance_96 (by decide) (fun c_26 => ?_) (fun c_26 => ?_)
  · replace h := ifp c_26 h
    refine lv_iload hx hb dX11_distance_106 (lv_at hl 0 rfl) ?_
    exact w_Mod_distance_J108 C x1 x2 x3 F x5 x6 x7_24 M  q h hE _ _ _ hS (lv_sub hl [1, 2, 3, 4, 5, 6] rfl)
  · replace h := ifn c_26 h
    refine lv_iload hx hb dX11_distance_99 (lv_at hl 6 rfl) ?_
    refine lv_iconst (v := 1) hx hb dX11_distance_101 (by decide) ?_
    refine lv_iadd hx hb dX11_distance_102 ?_
    refine lv_goto (tgt := 108) hx hb dX11_distance_103 (by decide) ?_
    exact w_Mod_distance_J108 C x1 x2 x3 F x5 x6 (x6 + 1) M  q h hE _ _ _ hS (lv_sub hl [1, 2, 3, 4, 5, 6] rfl)
set_option maxHeartbeats 4000000 in
set_option maxRecDepth 100000 in
theorem w_Mod_distance_B45 {G : Gl} {p : Program} {l : Launch} {e : Env} {s : State} {m : MethodId} {args : Array Value} {below : List Frame} {meth : Method} {c : Code} {Q : State → Prop} (C : Cx G cX11_distance 8 RX11 p s m args c) (x1 : Int32) (x2 : Int32) (x3 : Int32) (F : Nat) : ∀ (σ : (Int32 × Int32 × zM)) (q : Nat × (Int32 × Int32 × zM)), Mod_distance_B45 F x1 x2 x3 σ = some q → (E_Mod_distance_45 G p l e s m args below meth c Q x1 x2 x3) q.1 q.2 → (E_Mod_distance_45 G p l e s m args below meth c Q x1 x2 x3) 0 σ := by
  intro (x4, x5, M) q h hE H locs ls hS hl
  obtain ⟨hx, hb, -⟩ := id C
  unfold Mod_distance_B45 at h
  try dsimp only at h
  refine lv_iload hx hb dX11_distance_45 (lv_at hl 5 rfl) ?_
  refine lv_iload_n hx hb dX11_distance_47 rfl (lv_at hl 2 rfl) ?_
  refine lv_icmp_gt (tgt := 163) hx hb dX11_distance_48 (by decide) (fun c_17 => ?_) (fun c_17 => ?_)
  · replace h := ifp c_17 h
    obtain rfl := Option.some.inj h
    exact hE _ _ _ hS (lv_sub hl [0, 1, 2, 3] rfl)
  · replace h := ifn c_17 h
    refine lv_aload_n hx hb dX11_distance_51 rfl (lv_at hl 0 rfl) ?_
    refine r_gR C hS fl_X11_112 rfl rfl rfl dX11_distance_52 ?_
    refine lv_iload hx hb dX11_distance_55 (lv_at hl 5 rfl) ?_
    obtain ⟨b_18, h⟩ := ift h
    refine r_iald C hS rfl rfl b_18 dX11_distance_57 ?_
    obtain ⟨x6_19, e_20, h⟩ := olt h
    refine r_nI e_20 ?_
    refine lv_istore (lv' := [(6, .int x6_19), (0, .ref (G.1 + 63)), (1, .int x1), (2, .int x2), (3, .int x3), (4, .int x4), (5, .int x5)]) hx hb dX11_distance_58 hl (by decide) rfl (fun ls hl => ?_)
    refine lv_iload hx hb dX11_distance_60 (lv_at hl 5 rfl) ?_
    refine lv_aload_n hx hb dX11_distance_62 rfl (lv_at hl 1 rfl) ?_
    refine r_gR C hS fl_X11_100 rfl rfl rfl dX11_distance_63 ?_
    refine lv_iload_n hx hb dX11_distance_66 rfl (lv_at hl 4 rfl) ?_
    refine lv_iconst (v := 1) hx hb dX11_distance_67 (by decide) ?_
    refine lv_isub hx hb dX11_distance_68 ?_
    obtain ⟨b_21, h⟩ := ift h
    refine r_iald C hS rfl rfl b_21 dX11_distance_69 ?_
    refine lv_aload_n hx hb dX11_distance_70 rfl (lv_at hl 1 rfl) ?_
    refine r_gR C hS fl_X11_103 rfl rfl rfl dX11_distance_71 ?_
    refine lv_iload hx hb dX11_distance_74 (lv_at hl 6 rfl) ?_
    refine lv_iconst (v := 1) hx hb dX11_distance_76 (by decide) ?_
    refine lv_isub hx hb dX11_distance_77 ?_
    obtain ⟨b_22, h⟩ := ift h
    refine r_iald C hS rfl rfl b_22 dX11_distance_78 ?_
    refine lv_icmp_ne (tgt := 86) hx hb dX11_distance_79 (by decide) (fun c_23 => ?_) (fun c_23 => ?_)
    · replace h := ifn c_23 h
      refine lv_iconst (v := 1) hx hb dX11_distance_86 (by decide) ?_
      exact w_Mod_distance_J87 C x1 x2 x3 F x5 x6_19 x4 1 M  q h hE _ _ _ hS (lv_sub hl [1, 2, 3, 4, 6, 0] rfl)
    · replace h := ifp c_23 h
      refine lv_iconst (v := 0) hx hb dX11_distance_82 (by decide) ?_
      refine lv_goto (tgt := 87) hx hb dX11_distance_83 (by decide) ?_
      exact w_Mod_distance_J87 C x1 x2 x3 F x5 x6_19 x4 0 M  q h hE _ _ _ hS (lv_sub hl [1, 2, 3, 4, 6, 0] rfl)
set_option maxHeartbeats 4000000 in
set_option maxRecDepth 100000 in
theorem w_Mod_distance_B22 {G : Gl} {p : Program} {l : Launch} {e : Env} {s : State} {m : MethodId} {args : Array Value} {below : List Frame} {meth : Method} {c : Code} {Q : State → Prop} (C : Cx G cX11_distance 8 RX11 p s m args c) (x1 : Int32) (x2 : Int32) (F : Nat) : ∀ (σ : (Int32 × zM)) (q : Nat × (Int32 × zM)), Mod_distance_B22 F x1 x2 σ = some q → (E_Mod_distance_22 G p l e s m args below meth c Q x1 x2) q.1 q.2 → (E_Mod_distance_22 G p l e s m args below meth c Q x1 x2) 0 σ := by
  intro (x3, M) q h hE H locs ls hS hl
  obtain ⟨hx, hb, -⟩ := id C
  unfold Mod_distance_B22 at h
  try dsimp only at h
  refine lv_iload_n hx hb dX11_distance_22 rfl (lv_at hl 3 rfl) ?_
  refine lv_iload_n hx hb dX11_distance_23 rfl (lv_at hl 1 rfl) ?_
  refine lv_icmp_gt (tgt := 169) hx hb dX11_distance_24 (by decide) (fun c_11 => ?_) (fun c_11 => ?_)
  · replace h := ifp c_11 h
    obtain rfl := Option.some.inj h
    exact hE _ _ _ hS (lv_sub hl [0, 2] rfl)
  · replace h := ifn c_11 h
    refine lv_aload_n hx hb dX11_distance_27 rfl (lv_at hl 0 rfl) ?_
    refine r_gR C hS fl_X11_112 rfl rfl rfl dX11_distance_28 ?_
    refine lv_iconst (v := 0) hx hb dX11_distance_31 (by decide) ?_
    obtain ⟨b_12, h⟩ := ift h
    refine r_iald C hS rfl rfl b_12 dX11_distance_32 ?_
    obtain ⟨x4_13, e_14, h⟩ := olt h
    refine r_nI e_14 ?_
    refine lv_istore (lv' := [(4, .int x4_13), (0, .ref (G.1 + 63)), (1, .int x1), (2, .int x2), (3, .int x3)]) hx hb dX11_distance_33 hl (by decide) rfl (fun ls hl => ?_)
    refine lv_aload_n hx hb dX11_distance_35 rfl (lv_at hl 1 rfl) ?_
    refine r_gR C hS fl_X11_112 rfl rfl rfl dX11_distance_36 ?_
    refine lv_iconst (v := 0) hx hb dX11_distance_39 (by decide) ?_
    refine lv_iload_n hx hb dX11_distance_40 rfl (lv_at hl 4 rfl) ?_
    obtain ⟨M_15, e_16, h⟩ := olt h
    refine r_iast C hS rfl rfl b_12 e_16 dX11_distance_41 (fun H locs hS => ?_)
    refine lv_iconst (v := 1) hx hb dX11_distance_42 (by decide) ?_
    refine lv_istore (lv' := [(5, .int 1), (4, .int x4_13), (0, .ref (G.1 + 63)), (1, .int x1), (2, .int x2), (3, .int x3)]) hx hb dX11_distance_43 hl (by decide) rfl (fun ls hl => ?_)
    obtain ⟨⟨k_37, x4_34, x5_35, M_36⟩, hq_38, h⟩ := ob h
    try dsimp only at h
    refine loopW (E := (E_Mod_distance_45 G p l e s m _ below meth c _ x1 x2 x3)) (w_Mod_distance_B45 C x1 x2 x3 F) F _ _ hq_38 ?_ _ _ _ hS (lv_sub hl [2, 3, 4, 5, 1, 0] rfl)
    by_cases ek_41 : k_37 = 1
    · replace h := ifp ek_41 h
      subst ek_41
      intro H locs ls hS hl
      obtain ⟨x3_39, e_40, h⟩ := olt h
      refine lv_iinc (v := x3_39) (lv' := [(3, .int x3_39), (0, .ref (G.1 + 63)), (1, .int x1), (2, .int x2)]) hx hb dX11_distance_163 hl (k := 3) rfl (by rw [e_40]; rfl) (by decide) rfl (fun ls hl => ?_)
      refine lv_goto (tgt := 22) hx hb dX11_distance_166 (by decide) ?_
      obtain rfl := Option.some.inj h
      exact hE _ _ _ hS (lv_sub hl [1, 2, 3, 0] rfl)
    · replace h := ifn ek_41 h
      cases h
set_option maxHeartbeats 4000000 in
set_option maxRecDepth 100000 in
theorem c_X11_distance (l : Launch) (G : Gl) (F : Nat) (x1 : Int32) (x2 : Int32) (M : zM)  (q : Int32 × zM) (h : Mod_distance F x1 x2 M = some q) : Met l yX11_distance (wsM yX11_distance cX11_distance 8 (some .int)) (rmM 0 0) (Pre G M [.ref (G.1 + 63), .int x1, .int x2]) (PoI G q) 0 0 (gA G) := by
  refine r_met (own := RX11) rfl (by decide) (Nat.le_of_ble_eq_true rfl) ?_
  intro p e s m below meth c ls C hr hlk hS hl
  have hl : lv_has ls 8 [(0, .ref (G.1 + 63)), (1, .int x1), (2, .int x2)] := hl
  obtain ⟨hx, hb, -⟩ := id C
  unfold Mod_distance at h
  refine lv_iconst (v := 0) hx hb dX11_distance_0 (by decide) ?_
  refine lv_istore_n (lv' := [(3, .int 0), (0, .ref (G.1 + 63)), (1, .int x1), (2, .int x2)]) hx hb dX11_distance_1 rfl hl (by decide) rfl (fun ls hl => ?_)
  obtain ⟨⟨k_9, x3_7, M_8⟩, hq_10, h⟩ := ob h
  try dsimp only at h
  refine loopW (E := (E_Mod_distance_2 G p l e s m _ below meth c _ x1 x2)) (w_Mod_distance_B2 C x1 x2 F) F _ _ hq_10 ?_ _ _ _ hS (lv_sub hl [1, 2, 3, 0] rfl)
  by_cases ek_48 : k_9 = 1
  · replace h := ifp ek_48 h
    subst ek_48
    intro H locs ls hS hl
    refine lv_iconst (v := 1) hx hb dX11_distance_20 (by decide) ?_
    refine lv_istore_n (lv' := [(3, .int 1), (0, .ref (G.1 + 63)), (1, .int x1), (2, .int x2)]) hx hb dX11_distance_21 rfl hl (by decide) rfl (fun ls hl => ?_)
    obtain ⟨⟨k_44, x3_42, M_43⟩, hq_45, h⟩ := ob h
    try dsimp only at h
    refine loopW (E := (E_Mod_distance_22 G p l e s m _ below meth c _ x1 x2)) (w_Mod_distance_B22 C x1 x2 F) F _ _ hq_45 ?_ _ _ _ hS (lv_sub hl [1, 2, 3, 0] rfl)
    by_cases ek_47 : k_44 = 1
    · replace h := ifp ek_47 h
      subst ek_47
      intro H locs ls hS hl
      refine lv_aload_n hx hb dX11_distance_169 rfl (lv_at hl 0 rfl) ?_
      refine r_gR C hS fl_X11_112 rfl rfl rfl dX11_distance_170 ?_
      refine lv_iload_n hx hb dX11_distance_173 rfl (lv_at hl 1 rfl) ?_
      obtain ⟨b_46, h⟩ := ift h
      refine r_iald C hS rfl rfl b_46 dX11_distance_174 ?_
      exact r_iret C hS hr hlk h dX11_distance_175
    · replace h := ifn ek_47 h
      cases h
  · replace h := ifn ek_48 h
    cases h

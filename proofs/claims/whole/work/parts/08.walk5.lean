def E_Mod_takeWord_21 (G : Gl) (p : Program) (l : Launch) (e : Env) (s : State) (m : MethodId) (args : Array Value) (below : List Frame) (meth : Method) (c : Code) (Q : State → Prop) (x1 : Int32) : Nat → (Int32 × Int32 × zM) → Prop := fun k (x2, x3, M) => match k with
  | 0 => ∀ (H : Heap) (locs : List Loc) (ls : Array Slot), St G M s H locs → lv_has ls 4 [(0, .ref (G.1 + 63)), (1, .int x1), (2, .int x2), (3, .int x3)] → W p l e (rmM 2 48) s m args below meth c H locs 0 0 Q (F0 m 21 ls [])
  | 1 => ∀ (H : Heap) (locs : List Loc) (ls : Array Slot), St G M s H locs → lv_has ls 4 [(0, .ref (G.1 + 63)), (1, .int x1), (2, .int x2)] → W p l e (rmM 2 48) s m args below meth c H locs 0 0 Q (F0 m 72 ls [])
  | _ => True
set_option maxHeartbeats 4000000 in
set_option maxRecDepth 100000 in
theorem w_Mod_takeWord_B21 {G : Gl} {p : Program} {l : Launch} {e : Env} {s : State} {m : MethodId} {args : Array Value} {below : List Frame} {meth : Method} {c : Code} {Q : State → Prop} (C : Cx G cX11_takeWord 4 RX11 p s m args c) (x1 : Int32) (F : Nat) : ∀ (σ : (Int32 × Int32 × zM)) (q : Nat × (Int32 × Int32 × zM)), Mod_takeWord_B21 F x1 σ = some q → (E_Mod_takeWord_21 G p l e s m args below meth c Q x1) q.1 q.2 → (E_Mod_takeWord_21 G p l e s m args below meth c Q x1) 0 σ := by
  intro (x2, x3, M) q h hE H locs ls hS hl
  obtain ⟨hx, hb, -⟩ := id C
  unfold Mod_takeWord_B21 at h
  try dsimp only at h
  refine lv_iload_n hx hb dX11_takeWord_21 rfl (lv_at hl 3 rfl) ?_
  refine lv_iload_n hx hb dX11_takeWord_22 rfl (lv_at hl 1 rfl) ?_
  refine lv_icmp_ge (tgt := 72) hx hb dX11_takeWord_23 (by decide) (fun c_7 => ?_) (fun c_7 => ?_)
  · replace h := ifp c_7 h
    obtain rfl := Option.some.inj h
    exact hE _ _ _ hS (lv_sub hl [0, 1, 2] rfl)
  · replace h := ifn c_7 h
    refine lv_iload_n hx hb dX11_takeWord_26 rfl (lv_at hl 2 rfl) ?_
    refine lv_if_ne (tgt := 72) hx hb dX11_takeWord_27 (by decide) (fun c_8 => ?_) (fun c_8 => ?_)
    · replace h := ifn c_8 h
      obtain rfl := Option.some.inj h
      exact hE _ _ _ hS (lv_sub hl [0, 1, 2] rfl)
    · replace h := ifp c_8 h
      refine lv_aload_n hx hb dX11_takeWord_30 rfl (lv_at hl 0 rfl) ?_
      refine r_gR C hS fl_X11_64 rfl rfl rfl dX11_takeWord_31 ?_
      refine lv_iload_n hx hb dX11_takeWord_34 rfl (lv_at hl 3 rfl) ?_
      obtain ⟨b_9, h⟩ := ift h
      refine r_zald C hS rfl rfl b_9 dX11_takeWord_35 ?_
      refine lv_if_eq (tgt := 64) hx hb dX11_takeWord_36 (by decide) (fun c_10 => ?_) (fun c_10 => ?_)
      · replace h := ifp c_10 h
        refine lv_iconst (v := 0) hx hb dX11_takeWord_64 (by decide) ?_
        refine lv_istore_n (lv' := [(2, .int 0), (0, .ref (G.1 + 63)), (1, .int x1), (3, .int x3)]) hx hb dX11_takeWord_65 rfl hl (by decide) rfl (fun ls hl => ?_)
        obtain ⟨x3_11, e_12, h⟩ := olt h
        refine lv_iinc (v := x3_11) (lv' := [(3, .int x3_11), (2, .int 0), (0, .ref (G.1 + 63)), (1, .int x1)]) hx hb dX11_takeWord_66 hl (k := 3) rfl (by rw [e_12]; rfl) (by decide) rfl (fun ls hl => ?_)
        refine lv_goto (tgt := 21) hx hb dX11_takeWord_69 (by decide) ?_
        obtain rfl := Option.some.inj h
        exact hE _ _ _ hS (lv_sub hl [2, 3, 1, 0] rfl)
      · replace h := ifn c_10 h
        refine lv_aload_n hx hb dX11_takeWord_39 rfl (lv_at hl 0 rfl) ?_
        refine r_gR C hS fl_X11_67 rfl rfl rfl dX11_takeWord_40 ?_
        refine lv_iload_n hx hb dX11_takeWord_43 rfl (lv_at hl 3 rfl) ?_
        refine r_iald C hS rfl rfl b_9 dX11_takeWord_44 ?_
        refine lv_aload_n hx hb dX11_takeWord_45 rfl (lv_at hl 0 rfl) ?_
        refine r_gI C hS fl_X11_154 rfl rfl dX11_takeWord_46 ?_
        refine lv_icmp_ne (tgt := 64) hx hb dX11_takeWord_49 (by decide) (fun c_13 => ?_) (fun c_13 => ?_)
        · replace h := ifn c_13 h
          refine lv_iconst (v := 0) hx hb dX11_takeWord_64 (by decide) ?_
          refine lv_istore_n (lv' := [(2, .int 0), (0, .ref (G.1 + 63)), (1, .int x1), (3, .int x3)]) hx hb dX11_takeWord_65 rfl hl (by decide) rfl (fun ls hl => ?_)
          obtain ⟨x3_14, e_15, h⟩ := olt h
          refine lv_iinc (v := x3_14) (lv' := [(3, .int x3_14), (2, .int 0), (0, .ref (G.1 + 63)), (1, .int x1)]) hx hb dX11_takeWord_66 hl (k := 3) rfl (by rw [e_15]; rfl) (by decide) rfl (fun ls hl => ?_)
          refine lv_goto (tgt := 21) hx hb dX11_takeWord_69 (by decide) ?_
          obtain rfl := Option.some.inj h
          exact hE _ _ _ hS (lv_sub hl [2, 3, 1, 0] rfl)
        · replace h := ifp c_13 h
          refine lv_aload_n hx hb dX11_takeWord_52 rfl (lv_at hl 0 rfl) ?_
          refine lv_iconst (v := 3) hx hb dX11_takeWord_53 (by decide) ?_
          refine lv_aload_n hx hb dX11_takeWord_54 rfl (lv_at hl 0 rfl) ?_
          refine r_gI C hS fl_X11_151 rfl rfl dX11_takeWord_55 ?_
          obtain ⟨⟨r_16, M_17⟩, hq_18, h⟩ := ob h
          try dsimp only at h
          refine r_thenI hS (r_runV C hS hl.1 cv_X11_147 rfl (c_X11_fails l G F 3 (M.1 63 30) M  _ hq_18) ⟨by decide, by decide⟩ rfl rfl (Nat.le_of_ble_eq_true rfl) ⟨Nat.zero_le _, Nat.zero_le _⟩ dX11_takeWord_58) (fun H locs hS => ?_)
          refine lv_goto (tgt := 65) hx hb dX11_takeWord_61 (by decide) ?_
          refine lv_istore_n (lv' := [(2, .int r_16), (0, .ref (G.1 + 63)), (1, .int x1), (3, .int x3)]) hx hb dX11_takeWord_65 rfl hl (by decide) rfl (fun ls hl => ?_)
          obtain ⟨x3_19, e_20, h⟩ := olt h
          refine lv_iinc (v := x3_19) (lv' := [(3, .int x3_19), (2, .int r_16), (0, .ref (G.1 + 63)), (1, .int x1)]) hx hb dX11_takeWord_66 hl (k := 3) rfl (by rw [e_20]; rfl) (by decide) rfl (fun ls hl => ?_)
          refine lv_goto (tgt := 21) hx hb dX11_takeWord_69 (by decide) ?_
          obtain rfl := Option.some.inj h
          exact hE _ _ _ hS (lv_sub hl [2, 3, 1, 0] rfl)
set_option maxHeartbeats 4000000 in
set_option maxRecDepth 100000 in
theorem w_Mod_takeWord_J72 {G : Gl} {p : Program} {l : Launch} {e : Env} {s : State} {m : MethodId} {args : Array Value} {below : List Frame} {meth : Method} {c : Code} (C : Cx G cX11_takeWord 4 RX11 p s m args c) (hr : meth.sig.returnType = (some .int)) (hlk : meth.locks = false) (F : Nat) (x1 : Int32) (x2 : Int32) (M : zM)  (q : Int32 × zM) (h : Mod_takeWord_J72 F x1 x2 M = some q) (H : Heap) (locs : List Loc) (ls : Array Slot) (hS : St G M s H locs) (hl : lv_has ls 4 [(0, .ref (G.1 + 63)), (1, .int x1), (2, .int x2)]) : W p l e (rmM 2 48) s m args below meth c H locs 0 0 (MQ below (PoI G q) args s 0 0 (gA G)) (F0 m 72 ls []) := by
  obtain ⟨hx, hb, -⟩ := id C
  unfold Mod_takeWord_J72 at h
  refine lv_aload_n hx hb dX11_takeWord_72 rfl (lv_at hl 0 rfl) ?_
  refine r_gR C hS fl_X11_76 rfl rfl rfl dX11_takeWord_73 ?_
  refine lv_iload_n hx hb dX11_takeWord_76 rfl (lv_at hl 1 rfl) ?_
  refine lv_iconst (v := 1) hx hb dX11_takeWord_77 (by decide) ?_
  obtain ⟨b_26, h⟩ := ift h
  obtain ⟨M_27, e_28, h⟩ := olt h
  refine r_iast C hS rfl rfl b_26 e_28 dX11_takeWord_78 (fun H locs hS => ?_)
  refine lv_iload_n hx hb dX11_takeWord_79 rfl (lv_at hl 2 rfl) ?_
  refine lv_if_le (tgt := 87) hx hb dX11_takeWord_80 (by decide) (fun c_29 => ?_) (fun c_29 => ?_)
  · replace h := ifp c_29 h
    refine lv_aload_n hx hb dX11_takeWord_87 rfl (lv_at hl 0 rfl) ?_
    refine lv_bipush (v := 8) hx hb dX11_takeWord_88 (by decide) ?_
    refine lv_iload_n hx hb dX11_takeWord_90 rfl (lv_at hl 1 rfl) ?_
    refine lv_imul hx hb dX11_takeWord_91 ?_
    obtain ⟨⟨r_30, M_31⟩, hq_32, h⟩ := ob h
    try dsimp only at h
    refine r_thenI hS (r_runV C hS hl.1 cv_X11_168 rfl (c_X11_takeLetters l G F (8 * x1) M_27  _ hq_32) ⟨by decide, by decide⟩ rfl rfl (Nat.le_of_ble_eq_true rfl) ⟨Nat.zero_le _, Nat.zero_le _⟩ dX11_takeWord_92) (fun H locs hS => ?_)
    exact r_iret C hS hr hlk h dX11_takeWord_95
  · replace h := ifn c_29 h
    refine lv_iload_n hx hb dX11_takeWord_83 rfl (lv_at hl 2 rfl) ?_
    refine lv_goto (tgt := 95) hx hb dX11_takeWord_84 (by decide) ?_
    exact r_iret C hS hr hlk h dX11_takeWord_95
set_option maxHeartbeats 4000000 in
set_option maxRecDepth 100000 in
theorem c_X11_takeWord (l : Launch) (G : Gl) (F : Nat) (x1 : Int32) (M : zM)  (q : Int32 × zM) (h : Mod_takeWord F x1 M = some q) : Met l yX11_takeWord (wsM yX11_takeWord cX11_takeWord 4 (some .int)) (rmM 2 48) (Pre G M [.ref (G.1 + 63), .int x1]) (PoI G q) 0 0 (gA G) := by
  refine r_met (own := RX11) rfl (by decide) (Nat.le_of_ble_eq_true rfl) ?_
  intro p e s m below meth c ls C hr hlk hS hl
  have hl : lv_has ls 4 [(0, .ref (G.1 + 63)), (1, .int x1)] := hl
  obtain ⟨hx, hb, -⟩ := id C
  unfold Mod_takeWord at h
  refine lv_aload_n hx hb dX11_takeWord_0 rfl (lv_at hl 0 rfl) ?_
  refine lv_iconst (v := 0) hx hb dX11_takeWord_1 (by decide) ?_
  refine lv_sipush (v := 999) hx hb dX11_takeWord_2 (by decide) ?_
  obtain ⟨⟨r_1, M_2⟩, hq_3, h⟩ := ob h
  try dsimp only at h
  refine r_thenI hS (r_runV C hS hl.1 cv_X11_176 rfl (c_X11_takeNumber l G F 0 999 M  _ hq_3) ⟨by decide, by decide⟩ rfl rfl (Nat.le_of_ble_eq_true rfl) ⟨Nat.zero_le _, Nat.zero_le _⟩ dX11_takeWord_5) (fun H locs hS => ?_)
  refine lv_istore_n (lv' := [(2, .int r_1), (0, .ref (G.1 + 63)), (1, .int x1)]) hx hb dX11_takeWord_8 rfl hl (by decide) rfl (fun ls hl => ?_)
  refine lv_aload_n hx hb dX11_takeWord_9 rfl (lv_at hl 1 rfl) ?_
  refine r_gR C hS fl_X11_67 rfl rfl rfl dX11_takeWord_10 ?_
  refine lv_iload_n hx hb dX11_takeWord_13 rfl (lv_at hl 2 rfl) ?_
  refine lv_aload_n hx hb dX11_takeWord_14 rfl (lv_at hl 1 rfl) ?_
  refine r_gI C hS fl_X11_154 rfl rfl dX11_takeWord_15 ?_
  obtain ⟨b_4, h⟩ := ift h
  obtain ⟨M_5, e_6, h⟩ := olt h
  refine r_iast C hS rfl rfl b_4 e_6 dX11_takeWord_18 (fun H locs hS => ?_)
  refine lv_iconst (v := 0) hx hb dX11_takeWord_19 (by decide) ?_
  refine lv_istore_n (lv' := [(3, .int 0), (2, .int r_1), (0, .ref (G.1 + 63)), (1, .int x1)]) hx hb dX11_takeWord_20 rfl hl (by decide) rfl (fun ls hl => ?_)
  obtain ⟨⟨k_24, x2_21, x3_22, M_23⟩, hq_25, h⟩ := ob h
  try dsimp only at h
  refine loopW (E := (E_Mod_takeWord_21 G p l e s m _ below meth c _ x1)) (w_Mod_takeWord_B21 C x1 F) F _ _ hq_25 ?_ _ _ _ hS (lv_sub hl [2, 3, 1, 0] rfl)
  by_cases ek_33 : k_24 = 1
  · replace h := ifp ek_33 h
    subst ek_33
    intro H locs ls hS hl
    exact w_Mod_takeWord_J72 C hr hlk F x1 x2_21 M_23  q h _ _ _ hS (lv_sub hl [0, 1, 2] rfl)
  · replace h := ifn ek_33 h
    cases h
set_option maxHeartbeats 4000000 in
set_option maxRecDepth 100000 in
theorem w_Mod_takeClause_J115 {G : Gl} {p : Program} {l : Launch} {e : Env} {s : State} {m : MethodId} {args : Array Value} {below : List Frame} {meth : Method} {c : Code} (C : Cx G cX11_takeClause 4 RX11 p s m args c) (hr : meth.sig.returnType = (some .int)) (hlk : meth.locks = false) (F : Nat) (y0 : Int32) (M : zM)  (q : Int32 × zM) (h : Mod_takeClause_J115 F y0 M = some q) (H : Heap) (locs : List Loc) (ls : Array Slot) (hS : St G M s H locs) (hl : lv_has ls 4 [(0, .ref (G.1 + 63))]) : W p l e (rmM 5 118) s m args below meth c H locs 0 0 (MQ below (PoI G q) args s 0 0 (gA G)) (F0 m 115 ls [.int y0]) := by
  obtain ⟨hx, hb, -⟩ := id C
  unfold Mod_takeClause_J115 at h
  refine lv_istore_n (lv' := [(3, .int y0), (0, .ref (G.1 + 63))]) hx hb dX11_takeClause_115 rfl hl (by decide) rfl (fun ls hl => ?_)
  refine lv_iload_n hx hb dX11_takeClause_116 rfl (lv_at hl 0 rfl) ?_
  refine lv_if_le (tgt := 122) hx hb dX11_takeClause_117 (by decide) (fun c_21 => ?_) (fun c_21 => ?_)
  · replace h := ifp c_21 h
    refine lv_aload_n hx hb dX11_takeClause_122 rfl (lv_at hl 1 rfl) ?_
    obtain ⟨⟨r_22, M_23⟩, hq_24, h⟩ := ob h
    try dsimp only at h
    refine r_thenI hS (r_runV C hS hl.1 cv_X11_139 rfl (c_X11_here l G F  M  _ hq_24) ⟨by decide, by decide⟩ rfl rfl (Nat.le_of_ble_eq_true rfl) ⟨Nat.zero_le _, Nat.zero_le _⟩ dX11_takeClause_123) (fun H locs hS => ?_)
    refine lv_bipush (v := 59) hx hb dX11_takeClause_126 (by decide) ?_
    refine lv_icmp_eq (tgt := 141) hx hb dX11_takeClause_128 (by decide) (fun c_25 => ?_) (fun c_25 => ?_)
    · replace h := ifp c_25 h
      refine lv_aload_n hx hb dX11_takeClause_141 rfl (lv_at hl 1 rfl) ?_
      refine lv_dup hx hb dX11_takeClause_142 rfl ?_
      refine r_gI C hS fl_X11_136 rfl rfl dX11_takeClause_143 ?_
      refine lv_iconst (v := 1) hx hb dX11_takeClause_146 (by decide) ?_
      refine lv_iadd hx hb dX11_takeClause_147 ?_
      obtain ⟨M_26, e_27, h⟩ := olt h
      refine r_pI C hS fp_X11_136 rfl rfl e_27 dX11_takeClause_148 (fun H locs hS => ?_)
      refine lv_aload_n hx hb dX11_takeClause_151 rfl (lv_at hl 1 rfl) ?_
      refine lv_dup hx hb dX11_takeClause_152 rfl ?_
      refine r_gI C hS fl_X11_185 rfl rfl dX11_takeClause_153 ?_
      refine lv_iconst (v := 1) hx hb dX11_takeClause_156 (by decide) ?_
      refine lv_iadd hx hb dX11_takeClause_157 ?_
      obtain ⟨M_28, e_29, h⟩ := olt h
      refine r_pI C hS fp_X11_185 rfl rfl e_29 dX11_takeClause_158 (fun H locs hS => ?_)
      refine lv_iconst (v := 0) hx hb dX11_takeClause_161 (by decide) ?_
      exact r_iret C hS hr hlk h dX11_takeClause_162
    · replace h := ifn c_25 h
      refine lv_aload_n hx hb dX11_takeClause_131 rfl (lv_at hl 1 rfl) ?_
      refine lv_iconst (v := 1) hx hb dX11_takeClause_132 (by decide) ?_
      refine lv_aload_n hx hb dX11_takeClause_133 rfl (lv_at hl 1 rfl) ?_
      refine r_gI C hS fl_X11_136 rfl rfl dX11_takeClause_134 ?_
      obtain ⟨⟨r_30, M_31⟩, hq_32, h⟩ := ob h
      try dsimp only at h
      refine r_thenI hS (r_runV C hS hl.1 cv_X11_147 rfl (c_X11_fails l G F 1 (M_23.1 63 18) M_23  _ hq_32) ⟨by decide, by decide⟩ rfl rfl (Nat.le_of_ble_eq_true rfl) ⟨Nat.zero_le _, Nat.zero_le _⟩ dX11_takeClause_137) (fun H locs hS => ?_)
      exact r_iret C hS hr hlk h dX11_takeClause_140
  · replace h := ifn c_21 h
    refine lv_iload_n hx hb dX11_takeClause_120 rfl (lv_at hl 0 rfl) ?_
    exact r_iret C hS hr hlk h dX11_takeClause_121
set_option maxHeartbeats 4000000 in
set_option maxRecDepth 100000 in
theorem w_Mod_takeClause_J56 {G : Gl} {p : Program} {l : Launch} {e : Env} {s : State} {m : MethodId} {args : Array Value} {below : List Frame} {meth : Method} {c : Code} (C : Cx G cX11_takeClause 4 RX11 p s m args c) (hr : meth.sig.returnType = (some .int)) (hlk : meth.locks = false) (F : Nat) (y1 : Int32) (M : zM)  (q : Int32 × zM) (h : Mod_takeClause_J56 F y1 M = some q) (H : Heap) (locs : List Loc) (ls : Array Slot) (hS : St G M s H locs) (hl : lv_has ls 4 [(0, .ref (G.1 + 63))]) : W p l e (rmM 5 118) s m args below meth c H locs 0 0 (MQ below (PoI G q) args s 0 0 (gA G)) (F0 m 56 ls [.int y1, .ref (G.1 + 63)]) := by
  obtain ⟨hx, hb, -⟩ := id C
  unfold Mod_takeClause_J56 at h
  refine lv_aload_n hx hb dX11_takeClause_56 rfl (lv_at hl 0 rfl) ?_
  refine r_gI C hS fl_X11_136 rfl rfl dX11_takeClause_57 ?_
  obtain ⟨⟨r_37, M_38⟩, hq_39, h⟩ := ob h
  try dsimp only at h
  refine r_thenI hS (r_runV C hS hl.1 cv_X11_147 rfl (c_X11_fails l G F y1 (M.1 63 18) M  _ hq_39) ⟨by decide, by decide⟩ rfl rfl (Nat.le_of_ble_eq_true rfl) ⟨Nat.zero_le _, Nat.zero_le _⟩ dX11_takeClause_60) (fun H locs hS => ?_)
  exact r_iret C hS hr hlk h dX11_takeClause_63
set_option maxHeartbeats 4000000 in
set_option maxRecDepth 100000 in
theorem w_Mod_takeClause_J55 {G : Gl} {p : Program} {l : Launch} {e : Env} {s : State} {m : MethodId} {args : Array Value} {below : List Frame} {meth : Method} {c : Code} (C : Cx G cX11_takeClause 4 RX11 p s m args c) (hr : meth.sig.returnType = (some .int)) (hlk : meth.locks = false) (F : Nat)  (M : zM)  (q : Int32 × zM) (h : Mod_takeClause_J55 F  M = some q) (H : Heap) (locs : List Loc) (ls : Array Slot) (hS : St G M s H locs) (hl : lv_has ls 4 [(0, .ref (G.1 + 63))]) : W p l e (rmM 5 118) s m args below meth c H locs 0 0 (MQ below (PoI G q) args s 0 0 (gA G)) (F0 m 55 ls [.ref (G.1 + 63)]) := by
  obtain ⟨hx, hb, -⟩ := id C
  unfold Mod_takeClause_J55 at h
  refine lv_iconst (v := 5) hx hb dX11_takeClause_55 (by decide) ?_
  exact w_Mod_takeClause_J56 C hr hlk F 5 M  q h _ _ _ hS (lv_sub hl [0] rfl)
set_option maxHeartbeats 4000000 in
set_option maxRecDepth 100000 in
theorem w_Mod_takeClause_J42 {G : Gl} {p : Program} {l : Launch} {e : Env} {s : State} {m : MethodId} {args : Array Value} {below : List Frame} {meth : Method} {c : Code} (C : Cx G cX11_takeClause 4 RX11 p s m args c) (hr : meth.sig.returnType = (some .int)) (hlk : meth.locks = false) (F : Nat) (x1 : Int32) (x2 : Int32) (M : zM)  (q : Int32 × zM) (h : Mod_takeClause_J42 F x1 x2 M = some q) (H : Heap) (locs : List Loc) (ls : Array Slot) (hS : St G M s H locs) (hl : lv_has ls 4 [(0, .ref (G.1 + 63)), (1, .int x1), (2, .int x2)]) : W p l e (rmM 5 118) s m args below meth c H locs 0 0 (MQ below (PoI G q) args s 0 0 (gA G)) (F0 m 42 ls []) := by
  obtain ⟨hx, hb, -⟩ := id C
  unfold Mod_takeClause_J42 at h
  refine lv_aload_n hx hb dX11_takeClause_42 rfl (lv_at hl 0 rfl) ?_
  refine lv_iload_n hx hb dX11_takeClause_43 rfl (lv_at hl 1 rfl) ?_
  refine lv_if_ne (tgt := 55) hx hb dX11_takeClause_44 (by decide) (fun c_36 => ?_) (fun c_36 => ?_)
  · replace h := ifn c_36 h
    exact w_Mod_takeClause_J55 C hr hlk F  M  q h _ _ _ hS (lv_sub hl [0] rfl)
  · replace h := ifp c_36 h
    refine lv_iload_n hx hb dX11_takeClause_47 rfl (lv_at hl 2 rfl) ?_
    refine lv_if_ne (tgt := 55) hx hb dX11_takeClause_48 (by decide) (fun c_40 => ?_) (fun c_40 => ?_)
    · replace h := ifn c_40 h
      exact w_Mod_takeClause_J55 C hr hlk F  M  q h _ _ _ hS (lv_sub hl [0] rfl)
    · replace h := ifp c_40 h
      refine lv_iconst (v := 1) hx hb dX11_takeClause_51 (by decide) ?_
      refine lv_goto (tgt := 56) hx hb dX11_takeClause_52 (by decide) ?_
      exact w_Mod_takeClause_J56 C hr hlk F 1 M  q h _ _ _ hS (lv_sub hl [0] rfl)
set_option maxHeartbeats 4000000 in
set_option maxRecDepth 100000 in
theorem w_Mod_takeClause_J33 {G : Gl} {p : Program} {l : Launch} {e : Env} {s : State} {m : MethodId} {args : Array Value} {below : List Frame} {meth : Method} {c : Code} (C : Cx G cX11_takeClause 4 RX11 p s m args c) (hr : meth.sig.returnType = (some .int)) (hlk : meth.locks = false) (F : Nat) (x1 : Int32) (x2 : Int32) (M : zM)  (q : Int32 × zM) (h : Mod_takeClause_J33 F x1 x2 M = some q) (H : Heap) (locs : List Loc) (ls : Array Slot) (hS : St G M s H locs) (hl : lv_has ls 4 [(0, .ref (G.1 + 63)), (1, .int x1), (2, .int x2)]) : W p l e (rmM 5 118) s m args below meth c H locs 0 0 (MQ below (PoI G q) args s 0 0 (gA G)) (F0 m 33 ls []) := by
  obtain ⟨hx, hb, -⟩ := id C
  unfold Mod_takeClause_J33 at h
  refine lv_aload_n hx hb dX11_takeClause_33 rfl (lv_at hl 0 rfl) ?_
  refine r_gI C hS fl_X11_185 rfl rfl dX11_takeClause_34 ?_
  refine lv_bipush (v := 12) hx hb dX11_takeClause_37 (by decide) ?_
  refine lv_icmp_ne (tgt := 64) hx hb dX11_takeClause_39 (by decide) (fun c_8 => ?_) (fun c_8 => ?_)
  · replace h := ifn c_8 h
    refine lv_aload_n hx hb dX11_takeClause_64 rfl (lv_at hl 0 rfl) ?_
    refine lv_aload_n hx hb dX11_takeClause_65 rfl (lv_at hl 0 rfl) ?_
    refine r_gI C hS fl_X11_161 rfl rfl dX11_takeClause_66 ?_
    obtain ⟨M_9, e_10, h⟩ := olt h
    refine r_pI C hS fp_X11_136 rfl rfl e_10 dX11_takeClause_69 (fun H locs hS => ?_)
    refine lv_aload_n hx hb dX11_takeClause_72 rfl (lv_at hl 0 rfl) ?_
    refine r_gR C hS fl_X11_64 rfl rfl rfl dX11_takeClause_73 ?_
    refine lv_aload_n hx hb dX11_takeClause_76 rfl (lv_at hl 0 rfl) ?_
    refine r_gI C hS fl_X11_185 rfl rfl dX11_takeClause_77 ?_
    refine lv_iload_n hx hb dX11_takeClause_80 rfl (lv_at hl 1 rfl) ?_
    obtain ⟨b_11, h⟩ := ift h
    obtain ⟨M_12, e_13, h⟩ := olt h
    refine r_zast C hS rfl rfl b_11 e_13 dX11_takeClause_81 (fun H locs hS => ?_)
    refine lv_aload_n hx hb dX11_takeClause_82 rfl (lv_at hl 0 rfl) ?_
    refine r_gR C hS fl_X11_76 rfl rfl rfl dX11_takeClause_83 ?_
    refine lv_aload_n hx hb dX11_takeClause_86 rfl (lv_at hl 0 rfl) ?_
    refine r_gI C hS fl_X11_185 rfl rfl dX11_takeClause_87 ?_
    refine lv_iconst (v := 0) hx hb dX11_takeClause_90 (by decide) ?_
    obtain ⟨b_14, h⟩ := ift h
    obtain ⟨M_15, e_16, h⟩ := olt h
    refine r_iast C hS rfl rfl b_14 e_16 dX11_takeClause_91 (fun H locs hS => ?_)
    refine lv_iload_n hx hb dX11_takeClause_92 rfl (lv_at hl 1 rfl) ?_
    refine lv_if_eq (tgt := 107) hx hb dX11_takeClause_93 (by decide) (fun c_17 => ?_) (fun c_17 => ?_)
    · replace h := ifp c_17 h
      refine lv_aload_n hx hb dX11_takeClause_107 rfl (lv_at hl 0 rfl) ?_
      refine lv_aload_n hx hb dX11_takeClause_108 rfl (lv_at hl 0 rfl) ?_
      refine r_gI C hS fl_X11_185 rfl rfl dX11_takeClause_109 ?_
      obtain ⟨⟨r_18, M_19⟩, hq_20, h⟩ := ob h
      try dsimp only at h
      refine r_thenI hS (r_runV C hS hl.1 cv_X11_191 rfl (c_X11_takeForm l G F (M_15.1 63 19) M_15  _ hq_20) ⟨by decide, by decide⟩ rfl rfl (Nat.le_of_ble_eq_true rfl) ⟨Nat.zero_le _, Nat.zero_le _⟩ dX11_takeClause_112) (fun H locs hS => ?_)
      exact w_Mod_takeClause_J115 C hr hlk F r_18 M_19  q h _ _ _ hS (lv_sub hl [0] rfl)
    · replace h := ifn c_17 h
      refine lv_aload_n hx hb dX11_takeClause_96 rfl (lv_at hl 0 rfl) ?_
      refine lv_aload_n hx hb dX11_takeClause_97 rfl (lv_at hl 0 rfl) ?_
      refine r_gI C hS fl_X11_185 rfl rfl dX11_takeClause_98 ?_
      obtain ⟨⟨r_33, M_34⟩, hq_35, h⟩ := ob h
      try dsimp only at h
      refine r_thenI hS (r_runV C hS hl.1 cv_X11_188 rfl (c_X11_takeWord l G F (M_15.1 63 19) M_15  _ hq_35) ⟨by decide, by decide⟩ rfl rfl (Nat.le_of_ble_eq_true rfl) ⟨Nat.zero_le _, Nat.zero_le _⟩ dX11_takeClause_101) (fun H locs hS => ?_)
      refine lv_goto (tgt := 115) hx hb dX11_takeClause_104 (by decide) ?_
      exact w_Mod_takeClause_J115 C hr hlk F r_33 M_34  q h _ _ _ hS (lv_sub hl [0] rfl)
  · replace h := ifp c_8 h
    exact w_Mod_takeClause_J42 C hr hlk F x1 x2 M  q h _ _ _ hS (lv_sub hl [0, 1, 2] rfl)
set_option maxHeartbeats 4000000 in
set_option maxRecDepth 100000 in
theorem c_X11_takeClause (l : Launch) (G : Gl) (F : Nat)  (M : zM)  (q : Int32 × zM) (h : Mod_takeClause F  M = some q) : Met l yX11_takeClause (wsM yX11_takeClause cX11_takeClause 4 (some .int)) (rmM 5 118) (Pre G M [.ref (G.1 + 63)]) (PoI G q) 0 0 (gA G) := by
  refine r_met (own := RX11) rfl (by decide) (Nat.le_of_ble_eq_true rfl) ?_
  intro p e s m below meth c ls C hr hlk hS hl
  have hl : lv_has ls 4 [(0, .ref (G.1 + 63))] := hl
  obtain ⟨hx, hb, -⟩ := id C
  unfold Mod_takeClause at h
  refine lv_aload_n hx hb dX11_takeClause_0 rfl (lv_at hl 0 rfl) ?_
  refine lv_bipush (v := 119) hx hb dX11_takeClause_1 (by decide) ?_
  refine lv_bipush (v := 111) hx hb dX11_takeClause_3 (by decide) ?_
  refine lv_bipush (v := 114) hx hb dX11_takeClause_5 (by decide) ?_
  refine lv_bipush (v := 100) hx hb dX11_takeClause_7 (by decide) ?_
  obtain ⟨⟨r_1, M_2⟩, hq_3, h⟩ := ob h
  try dsimp only at h
  refine r_thenI hS (r_runV C hS hl.1 cv_X11_164 rfl (c_X11_isComing l G F 119 111 114 100 M  _ hq_3) ⟨by decide, by decide⟩ rfl rfl (Nat.le_of_ble_eq_true rfl) ⟨Nat.zero_le _, Nat.zero_le _⟩ dX11_takeClause_9) (fun H locs hS => ?_)
  refine lv_istore_n (lv' := [(1, .int r_1), (0, .ref (G.1 + 63))]) hx hb dX11_takeClause_12 rfl hl (by decide) rfl (fun ls hl => ?_)
  refine lv_aload_n hx hb dX11_takeClause_13 rfl (lv_at hl 1 rfl) ?_
  refine lv_bipush (v := 102) hx hb dX11_takeClause_14 (by decide) ?_
  refine lv_bipush (v := 111) hx hb dX11_takeClause_16 (by decide) ?_
  refine lv_bipush (v := 114) hx hb dX11_takeClause_18 (by decide) ?_
  refine lv_iconst (v := 0) hx hb dX11_takeClause_20 (by decide) ?_
  obtain ⟨⟨r_4, M_5⟩, hq_6, h⟩ := ob h
  try dsimp only at h
  refine r_thenI hS (r_runV C hS hl.1 cv_X11_164 rfl (c_X11_isComing l G F 102 111 114 0 M_2  _ hq_6) ⟨by decide, by decide⟩ rfl rfl (Nat.le_of_ble_eq_true rfl) ⟨Nat.zero_le _, Nat.zero_le _⟩ dX11_takeClause_21) (fun H locs hS => ?_)
  refine lv_istore_n (lv' := [(2, .int r_4), (1, .int r_1), (0, .ref (G.1 + 63))]) hx hb dX11_takeClause_24 rfl hl (by decide) rfl (fun ls hl => ?_)
  refine lv_iload_n hx hb dX11_takeClause_25 rfl (lv_at hl 1 rfl) ?_
  refine lv_if_ne (tgt := 33) hx hb dX11_takeClause_26 (by decide) (fun c_7 => ?_) (fun c_7 => ?_)
  · replace h := ifn c_7 h
    exact w_Mod_takeClause_J33 C hr hlk F r_1 r_4 M_5  q h _ _ _ hS (lv_sub hl [2, 1, 0] rfl)
  · replace h := ifp c_7 h
    refine lv_iload_n hx hb dX11_takeClause_29 rfl (lv_at hl 0 rfl) ?_
    refine lv_if_eq (tgt := 42) hx hb dX11_takeClause_30 (by decide) (fun c_41 => ?_) (fun c_41 => ?_)
    · replace h := ifp c_41 h
      exact w_Mod_takeClause_J42 C hr hlk F r_1 r_4 M_5  q h _ _ _ hS (lv_sub hl [2, 1, 0] rfl)
    · replace h := ifn c_41 h
      exact w_Mod_takeClause_J33 C hr hlk F r_1 r_4 M_5  q h _ _ _ hS (lv_sub hl [2, 1, 0] rfl)
def E_Mod_keep_12 (G : Gl) (p : Program) (l : Launch) (e : Env) (s : State) (m : MethodId) (args : Array Value) (below : List Frame) (meth : Method) (c : Code) (Q : State → Prop) (x1 : Int32) : Nat → (Int32 × zM) → Prop := fun k (x2, M) => match k with
  | 0 => ∀ (H : Heap) (locs : List Loc) (ls : Array Slot), St G M s H locs → lv_has ls 6 [(0, .ref (G.1 + 63)), (1, .int x1), (2, .int x2)] → W p l e (rmM 0 0) s m args below meth c H locs 0 0 Q (F0 m 12 ls [])
  | 1 => ∀ (H : Heap) (locs : List Loc) (ls : Array Slot), St G M s H locs → lv_has ls 6 [] → W p l e (rmM 0 0) s m args below meth c H locs 0 0 Q (F0 m 247 ls [])
  | _ => True
def E_Mod_keep_90 (G : Gl) (p : Program) (l : Launch) (e : Env) (s : State) (m : MethodId) (args : Array Value) (below : List Frame) (meth : Method) (c : Code) (Q : State → Prop) (x1 : Int32) (x2 : Int32) (x3 : Int32) : Nat → (Int32 × zM) → Prop := fun k (x4, M) => match k with
  | 0 => ∀ (H : Heap) (locs : List Loc) (ls : Array Slot), St G M s H locs → lv_has ls 6 [(0, .ref (G.1 + 63)), (1, .int x1), (2, .int x2), (3, .int x3), (4, .int x4)] → W p l e (rmM 0 0) s m args below meth c H locs 0 0 Q (F0 m 90 ls [])
  | 1 => ∀ (H : Heap) (locs : List Loc) (ls : Array Slot), St G M s H locs → lv_has ls 6 [(0, .ref (G.1 + 63)), (1, .int x1), (2, .int x2)] → W p l e (rmM 0 0) s m args below meth c H locs 0 0 Q (F0 m 241 ls [])
  | _ => True
def E_Mod_keep_176 (G : Gl) (p : Program) (l : Launch) (e : Env) (s : State) (m : MethodId) (args : Array Value) (below : List Frame) (meth : Method) (c : Code) (Q : State → Prop) (x1 : Int32) (x2 : Int32) (x3 : Int32) (x4 : Int32) : Nat → (Int32 × zM) → Prop := fun k (x5, M) => match k with
  | 0 => ∀ (H : Heap) (locs : List Loc) (ls : Array Slot), St G M s H locs → lv_has ls 6 [(0, .ref (G.1 + 63)), (1, .int x1), (2, .int x2), (3, .int x3), (4, .int x4), (5, .int x5)] → W p l e (rmM 0 0) s m args below meth c H locs 0 0 Q (F0 m 176 ls [])
  | 1 => ∀ (H : Heap) (locs : List Loc) (ls : Array Slot), St G M s H locs → lv_has ls 6 [(0, .ref (G.1 + 63)), (1, .int x1), (2, .int x2), (3, .int x3), (4, .int x4)] → W p l e (rmM 0 0) s m args below meth c H locs 0 0 Q (F0 m 235 ls [])
  | _ => True
set_option maxHeartbeats 4000000 in
set_option maxRecDepth 100000 in
theorem w_Mod_keep_B176 {G : Gl} {p : Program} {l : Launch} {e : Env} {s : State} {m : MethodId} {args : Array Value} {below : List Frame} {meth : Method} {c : Code} {Q : State → Prop} (C : Cx G cX11_keep 6 RX11 p s m args c) (x1 : Int32) (x2 : Int32) (x3 : Int32) (x4 : Int32) (F : Nat) : ∀ (σ : (Int32 × zM)) (q : Nat × (Int32 × zM)), Mod_keep_B176 F x1 x2 x3 x4 σ = some q → (E_Mod_keep_176 G p l e s m args below meth c Q x1 x2 x3 x4) q.1 q.2 → (E_Mod_keep_176 G p l e s m args below meth c Q x1 x2 x3 x4) 0 σ := by
  intro (x5, M) q h hE H locs ls hS hl
  obtain ⟨hx, hb, -⟩ := id C
  unfold Mod_keep_B176 at h
  try dsimp only at h
  refine lv_iload hx hb dX11_keep_176 (lv_at hl 5 rfl) ?_
  refine lv_aload_n hx hb dX11_keep_178 rfl (lv_at hl 0 rfl) ?_
  refine r_gR C hS fl_X11_85 rfl rfl rfl dX11_keep_179 ?_
  refine lv_bipush (v := 8) hx hb dX11_keep_182 (by decide) ?_
  refine lv_iload_n hx hb dX11_keep_184 rfl (lv_at hl 2 rfl) ?_
  refine lv_imul hx hb dX11_keep_185 ?_
  refine lv_iload hx hb dX11_keep_186 (lv_at hl 4 rfl) ?_
  refine lv_iadd hx hb dX11_keep_188 ?_
  obtain ⟨b_29, h⟩ := ift h
  refine r_iald C hS rfl rfl b_29 dX11_keep_189 ?_
  refine lv_icmp_ge (tgt := 235) hx hb dX11_keep_190 (by decide) (fun c_30 => ?_) (fun c_30 => ?_)
  · replace h := ifp c_30 h
    obtain rfl := Option.some.inj h
    exact hE _ _ _ hS (lv_sub hl [0, 1, 2, 3, 4] rfl)
  · replace h := ifn c_30 h
    refine lv_aload_n hx hb dX11_keep_193 rfl (lv_at hl 0 rfl) ?_
    refine r_gR C hS fl_X11_38 rfl rfl rfl dX11_keep_194 ?_
    refine lv_bipush (v := 12) hx hb dX11_keep_197 (by decide) ?_
    refine lv_bipush (v := 8) hx hb dX11_keep_199 (by decide) ?_
    refine lv_iload_n hx hb dX11_keep_201 rfl (lv_at hl 3 rfl) ?_
    refine lv_imul hx hb dX11_keep_202 ?_
    refine lv_iload hx hb dX11_keep_203 (lv_at hl 4 rfl) ?_
    refine lv_iadd hx hb dX11_keep_205 ?_
    refine lv_imul hx hb dX11_keep_206 ?_
    refine lv_iload hx hb dX11_keep_207 (lv_at hl 5 rfl) ?_
    refine lv_iadd hx hb dX11_keep_209 ?_
    refine lv_aload_n hx hb dX11_keep_210 rfl (lv_at hl 0 rfl) ?_
    refine r_gR C hS fl_X11_88 rfl rfl rfl dX11_keep_211 ?_
    refine lv_bipush (v := 12) hx hb dX11_keep_214 (by decide) ?_
    refine lv_bipush (v := 8) hx hb dX11_keep_216 (by decide) ?_
    refine lv_iload_n hx hb dX11_keep_218 rfl (lv_at hl 2 rfl) ?_
    refine lv_imul hx hb dX11_keep_219 ?_
    refine lv_iload hx hb dX11_keep_220 (lv_at hl 4 rfl) ?_
    refine lv_iadd hx hb dX11_keep_222 ?_
    refine lv_imul hx hb dX11_keep_223 ?_
    refine lv_iload hx hb dX11_keep_224 (lv_at hl 5 rfl) ?_
    refine lv_iadd hx hb dX11_keep_226 ?_
    obtain ⟨b_31, h⟩ := ift h
    refine r_iald C hS rfl rfl b_31 dX11_keep_227 ?_
    obtain ⟨b_32, h⟩ := ift h
    obtain ⟨M_33, e_34, h⟩ := olt h
    refine r_iast C hS rfl rfl b_32 e_34 dX11_keep_228 (fun H locs hS => ?_)
    obtain ⟨x5_35, e_36, h⟩ := olt h
    refine lv_iinc (v := x5_35) (lv' := [(5, .int x5_35), (0, .ref (G.1 + 63)), (1, .int x1), (2, .int x2), (3, .int x3), (4, .int x4)]) hx hb dX11_keep_229 hl (k := 5) rfl (by rw [e_36]; rfl) (by decide) rfl (fun ls hl => ?_)
    refine lv_goto (tgt := 176) hx hb dX11_keep_232 (by decide) ?_
    obtain rfl := Option.some.inj h
    exact hE _ _ _ hS (lv_sub hl [1, 2, 3, 4, 5, 0] rfl)
set_option maxHeartbeats 4000000 in
set_option maxRecDepth 100000 in
theorem w_Mod_keep_B90 {G : Gl} {p : Program} {l : Launch} {e : Env} {s : State} {m : MethodId} {args : Array Value} {below : List Frame} {meth : Method} {c : Code} {Q : State → Prop} (C : Cx G cX11_keep 6 RX11 p s m args c) (x1 : Int32) (x2 : Int32) (x3 : Int32) (F : Nat) : ∀ (σ : (Int32 × zM)) (q : Nat × (Int32 × zM)), Mod_keep_B90 F x1 x2 x3 σ = some q → (E_Mod_keep_90 G p l e s m args below meth c Q x1 x2 x3) q.1 q.2 → (E_Mod_keep_90 G p l e s m args below meth c Q x1 x2 x3) 0 σ := by
  intro (x4, M) q h hE H locs ls hS hl
  obtain ⟨hx, hb, -⟩ := id C
  unfold Mod_keep_B90 at h
  try dsimp only at h
  refine lv_iload hx hb dX11_keep_90 (lv_at hl 4 rfl) ?_
  refine lv_aload_n hx hb dX11_keep_92 rfl (lv_at hl 0 rfl) ?_
  refine r_gR C hS fl_X11_76 rfl rfl rfl dX11_keep_93 ?_
  refine lv_iload_n hx hb dX11_keep_96 rfl (lv_at hl 2 rfl) ?_
  obtain ⟨b_19, h⟩ := ift h
  refine r_iald C hS rfl rfl b_19 dX11_keep_97 ?_
  refine lv_icmp_ge (tgt := 241) hx hb dX11_keep_98 (by decide) (fun c_20 => ?_) (fun c_20 => ?_)
  · replace h := ifp c_20 h
    obtain rfl := Option.some.inj h
    exact hE _ _ _ hS (lv_sub hl [0, 1, 2] rfl)
  · replace h := ifn c_20 h
    refine lv_aload_n hx hb dX11_keep_101 rfl (lv_at hl 0 rfl) ?_
    refine r_gR C hS fl_X11_29 rfl rfl rfl dX11_keep_102 ?_
    refine lv_bipush (v := 8) hx hb dX11_keep_105 (by decide) ?_
    refine lv_iload_n hx hb dX11_keep_107 rfl (lv_at hl 3 rfl) ?_
    refine lv_imul hx hb dX11_keep_108 ?_
    refine lv_iload hx hb dX11_keep_109 (lv_at hl 4 rfl) ?_
    refine lv_iadd hx hb dX11_keep_111 ?_
    refine lv_aload_n hx hb dX11_keep_112 rfl (lv_at hl 0 rfl) ?_
    refine r_gR C hS fl_X11_79 rfl rfl rfl dX11_keep_113 ?_
    refine lv_bipush (v := 8) hx hb dX11_keep_116 (by decide) ?_
    refine lv_iload_n hx hb dX11_keep_118 rfl (lv_at hl 2 rfl) ?_
    refine lv_imul hx hb dX11_keep_119 ?_
    refine lv_iload hx hb dX11_keep_120 (lv_at hl 4 rfl) ?_
    refine lv_iadd hx hb dX11_keep_122 ?_
    obtain ⟨b_21, h⟩ := ift h
    refine r_iald C hS rfl rfl b_21 dX11_keep_123 ?_
    obtain ⟨b_22, h⟩ := ift h
    obtain ⟨M_23, e_24, h⟩ := olt h
    refine r_iast C hS rfl rfl b_22 e_24 dX11_keep_124 (fun H locs hS => ?_)
    refine lv_aload_n hx hb dX11_keep_125 rfl (lv_at hl 0 rfl) ?_
    refine r_gR C hS fl_X11_32 rfl rfl rfl dX11_keep_126 ?_
    refine lv_bipush (v := 8) hx hb dX11_keep_129 (by decide) ?_
    refine lv_iload_n hx hb dX11_keep_131 rfl (lv_at hl 3 rfl) ?_
    refine lv_imul hx hb dX11_keep_132 ?_
    refine lv_iload hx hb dX11_keep_133 (lv_at hl 4 rfl) ?_
    refine lv_iadd hx hb dX11_keep_135 ?_
    refine lv_aload_n hx hb dX11_keep_136 rfl (lv_at hl 0 rfl) ?_
    refine r_gR C hS fl_X11_82 rfl rfl rfl dX11_keep_137 ?_
    refine lv_bipush (v := 8) hx hb dX11_keep_140 (by decide) ?_
    refine lv_iload_n hx hb dX11_keep_142 rfl (lv_at hl 2 rfl) ?_
    refine lv_imul hx hb dX11_keep_143 ?_
    refine lv_iload hx hb dX11_keep_144 (lv_at hl 4 rfl) ?_
    refine lv_iadd hx hb dX11_keep_146 ?_
    refine r_zald C hS rfl rfl b_21 dX11_keep_147 ?_
    obtain ⟨M_25, e_26, h⟩ := olt h
    refine r_zast C hS rfl rfl b_22 e_26 dX11_keep_148 (fun H locs hS => ?_)
    refine lv_aload_n hx hb dX11_keep_149 rfl (lv_at hl 0 rfl) ?_
    refine r_gR C hS fl_X11_35 rfl rfl rfl dX11_keep_150 ?_
    refine lv_bipush (v := 8) hx hb dX11_keep_153 (by decide) ?_
    refine lv_iload_n hx hb dX11_keep_155 rfl (lv_at hl 3 rfl) ?_
    refine lv_imul hx hb dX11_keep_156 ?_
    refine lv_iload hx hb dX11_keep_157 (lv_at hl 4 rfl) ?_
    refine lv_iadd hx hb dX11_keep_159 ?_
    refine lv_aload_n hx hb dX11_keep_160 rfl (lv_at hl 0 rfl) ?_
    refine r_gR C hS fl_X11_85 rfl rfl rfl dX11_keep_161 ?_
    refine lv_bipush (v := 8) hx hb dX11_keep_164 (by decide) ?_
    refine lv_iload_n hx hb dX11_keep_166 rfl (lv_at hl 2 rfl) ?_
    refine lv_imul hx hb dX11_keep_167 ?_
    refine lv_iload hx hb dX11_keep_168 (lv_at hl 4 rfl) ?_
    refine lv_iadd hx hb dX11_keep_170 ?_
    refine r_iald C hS rfl rfl b_21 dX11_keep_171 ?_
    obtain ⟨M_27, e_28, h⟩ := olt h
    refine r_iast C hS rfl rfl b_22 e_28 dX11_keep_172 (fun H locs hS => ?_)
    refine lv_iconst (v := 0) hx hb dX11_keep_173 (by decide) ?_
    refine lv_istore (lv' := [(5, .int 0), (0, .ref (G.1 + 63)), (1, .int x1), (2, .int x2), (3, .int x3), (4, .int x4)]) hx hb dX11_keep_174 hl (by decide) rfl (fun ls hl => ?_)
    obtain ⟨⟨k_39, x5_37, M_38⟩, hq_40, h⟩ := ob h
    try dsimp only at h
    refine loopW (E := (E_Mod_keep_176 G p l e s m _ below meth c _ x1 x2 x3 x4)) (w_Mod_keep_B176 C x1 x2 x3 x4 F) F _ _ hq_40 ?_ _ _ _ hS (lv_sub hl [1, 2, 3, 4, 5, 0] rfl)
    by_cases ek_43 : k_39 = 1
    · replace h := ifp ek_43 h
      subst ek_43
      intro H locs ls hS hl
      obtain ⟨x4_41, e_42, h⟩ := olt h
      refine lv_iinc (v := x4_41) (lv' := [(4, .int x4_41), (0, .ref (G.1 + 63)), (1, .int x1), (2, .int x2), (3, .int x3)]) hx hb dX11_keep_235 hl (k := 4) rfl (by rw [e_42]; rfl) (by decide) rfl (fun ls hl => ?_)
      refine lv_goto (tgt := 90) hx hb dX11_keep_238 (by decide) ?_
      obtain rfl := Option.some.inj h
      exact hE _ _ _ hS (lv_sub hl [1, 2, 3, 4, 0] rfl)
    · replace h := ifn ek_43 h
      cases h
set_option maxHeartbeats 4000000 in
set_option maxRecDepth 100000 in
theorem w_Mod_keep_B12 {G : Gl} {p : Program} {l : Launch} {e : Env} {s : State} {m : MethodId} {args : Array Value} {below : List Frame} {meth : Method} {c : Code} {Q : State → Prop} (C : Cx G cX11_keep 6 RX11 p s m args c) (x1 : Int32) (F : Nat) : ∀ (σ : (Int32 × zM)) (q : Nat × (Int32 × zM)), Mod_keep_B12 F x1 σ = some q → (E_Mod_keep_12 G p l e s m args below meth c Q x1) q.1 q.2 → (E_Mod_keep_12 G p l e s m args below meth c Q x1) 0 σ := by
  intro (x2, M) q h hE H locs ls hS hl
  obtain ⟨hx, hb, -⟩ := id C
  unfold Mod_keep_B12 at h
  try dsimp only at h
  refine lv_iload_n hx hb dX11_keep_12 rfl (lv_at hl 2 rfl) ?_
  refine lv_aload_n hx hb dX11_keep_13 rfl (lv_at hl 0 rfl) ?_
  refine r_gI C hS fl_X11_185 rfl rfl dX11_keep_14 ?_
  refine lv_icmp_ge (tgt := 247) hx hb dX11_keep_17 (by decide) (fun c_4 => ?_) (fun c_4 => ?_)
  · replace h := ifp c_4 h
    obtain rfl := Option.some.inj h
    exact hE _ _ _ hS (lv_sub hl [] rfl)
  · replace h := ifn c_4 h
    refine lv_bipush (v := 12) hx hb dX11_keep_20 (by decide) ?_
    refine lv_iload_n hx hb dX11_keep_22 rfl (lv_at hl 1 rfl) ?_
    refine lv_imul hx hb dX11_keep_23 ?_
    refine lv_iload_n hx hb dX11_keep_24 rfl (lv_at hl 2 rfl) ?_
    refine lv_iadd hx hb dX11_keep_25 ?_
    obtain ⟨x3_5, e_6, h⟩ := olt h
    refine r_nI e_6 ?_
    refine lv_istore_n (lv' := [(3, .int x3_5), (0, .ref (G.1 + 63)), (1, .int x1), (2, .int x2)]) hx hb dX11_keep_26 rfl hl (by decide) rfl (fun ls hl => ?_)
    refine lv_aload_n hx hb dX11_keep_27 rfl (lv_at hl 1 rfl) ?_
    refine r_gR C hS fl_X11_13 rfl rfl rfl dX11_keep_28 ?_
    refine lv_iload_n hx hb dX11_keep_31 rfl (lv_at hl 0 rfl) ?_
    refine lv_aload_n hx hb dX11_keep_32 rfl (lv_at hl 1 rfl) ?_
    refine r_gR C hS fl_X11_64 rfl rfl rfl dX11_keep_33 ?_
    refine lv_iload_n hx hb dX11_keep_36 rfl (lv_at hl 3 rfl) ?_
    obtain ⟨b_7, h⟩ := ift h
    refine r_zald C hS rfl rfl b_7 dX11_keep_37 ?_
    obtain ⟨b_8, h⟩ := ift h
    obtain ⟨M_9, e_10, h⟩ := olt h
    refine r_zast C hS rfl rfl b_8 e_10 dX11_keep_38 (fun H locs hS => ?_)
    refine lv_aload_n hx hb dX11_keep_39 rfl (lv_at hl 1 rfl) ?_
    refine r_gR C hS fl_X11_17 rfl rfl rfl dX11_keep_40 ?_
    refine lv_iload_n hx hb dX11_keep_43 rfl (lv_at hl 0 rfl) ?_
    refine lv_aload_n hx hb dX11_keep_44 rfl (lv_at hl 1 rfl) ?_
    refine r_gR C hS fl_X11_67 rfl rfl rfl dX11_keep_45 ?_
    refine lv_iload_n hx hb dX11_keep_48 rfl (lv_at hl 3 rfl) ?_
    refine r_iald C hS rfl rfl b_7 dX11_keep_49 ?_
    obtain ⟨M_11, e_12, h⟩ := olt h
    refine r_iast C hS rfl rfl b_8 e_12 dX11_keep_50 (fun H locs hS => ?_)
    refine lv_aload_n hx hb dX11_keep_51 rfl (lv_at hl 1 rfl) ?_
    refine r_gR C hS fl_X11_20 rfl rfl rfl dX11_keep_52 ?_
    refine lv_iload_n hx hb dX11_keep_55 rfl (lv_at hl 0 rfl) ?_
    refine lv_aload_n hx hb dX11_keep_56 rfl (lv_at hl 1 rfl) ?_
    refine r_gR C hS fl_X11_70 rfl rfl rfl dX11_keep_57 ?_
    refine lv_iload_n hx hb dX11_keep_60 rfl (lv_at hl 3 rfl) ?_
    refine r_iald C hS rfl rfl b_7 dX11_keep_61 ?_
    obtain ⟨M_13, e_14, h⟩ := olt h
    refine r_iast C hS rfl rfl b_8 e_14 dX11_keep_62 (fun H locs hS => ?_)
    refine lv_aload_n hx hb dX11_keep_63 rfl (lv_at hl 1 rfl) ?_
    refine r_gR C hS fl_X11_23 rfl rfl rfl dX11_keep_64 ?_
    refine lv_iload_n hx hb dX11_keep_67 rfl (lv_at hl 0 rfl) ?_
    refine lv_aload_n hx hb dX11_keep_68 rfl (lv_at hl 1 rfl) ?_
    refine r_gR C hS fl_X11_73 rfl rfl rfl dX11_keep_69 ?_
    refine lv_iload_n hx hb dX11_keep_72 rfl (lv_at hl 3 rfl) ?_
    refine r_iald C hS rfl rfl b_7 dX11_keep_73 ?_
    obtain ⟨M_15, e_16, h⟩ := olt h
    refine r_iast C hS rfl rfl b_8 e_16 dX11_keep_74 (fun H locs hS => ?_)
    refine lv_aload_n hx hb dX11_keep_75 rfl (lv_at hl 1 rfl) ?_
    refine r_gR C hS fl_X11_26 rfl rfl rfl dX11_keep_76 ?_
    refine lv_iload_n hx hb dX11_keep_79 rfl (lv_at hl 0 rfl) ?_
    refine lv_aload_n hx hb dX11_keep_80 rfl (lv_at hl 1 rfl) ?_
    refine r_gR C hS fl_X11_76 rfl rfl rfl dX11_keep_81 ?_
    refine lv_iload_n hx hb dX11_keep_84 rfl (lv_at hl 3 rfl) ?_
    refine r_iald C hS rfl rfl b_7 dX11_keep_85 ?_
    obtain ⟨M_17, e_18, h⟩ := olt h
    refine r_iast C hS rfl rfl b_8 e_18 dX11_keep_86 (fun H locs hS => ?_)
    refine lv_iconst (v := 0) hx hb dX11_keep_87 (by decide) ?_
    refine lv_istore (lv' := [(4, .int 0), (3, .int x3_5), (0, .ref (G.1 + 63)), (1, .int x1), (2, .int x2)]) hx hb dX11_keep_88 hl (by decide) rfl (fun ls hl => ?_)
    obtain ⟨⟨k_46, x4_44, M_45⟩, hq_47, h⟩ := ob h
    try dsimp only at h
    refine loopW (E := (E_Mod_keep_90 G p l e s m _ below meth c _ x1 x2 x3_5)) (w_Mod_keep_B90 C x1 x2 x3_5 F) F _ _ hq_47 ?_ _ _ _ hS (lv_sub hl [2, 3, 4, 1, 0] rfl)
    by_cases ek_50 : k_46 = 1
    · replace h := ifp ek_50 h
      subst ek_50
      intro H locs ls hS hl
      obtain ⟨x2_48, e_49, h⟩ := olt h
      refine lv_iinc (v := x2_48) (lv' := [(2, .int x2_48), (0, .ref (G.1 + 63)), (1, .int x1)]) hx hb dX11_keep_241 hl (k := 2) rfl (by rw [e_49]; rfl) (by decide) rfl (fun ls hl => ?_)
      refine lv_goto (tgt := 12) hx hb dX11_keep_244 (by decide) ?_
      obtain rfl := Option.some.inj h
      exact hE _ _ _ hS (lv_sub hl [1, 2, 0] rfl)
    · replace h := ifn ek_50 h
      cases h
set_option maxHeartbeats 4000000 in
set_option maxRecDepth 100000 in
theorem c_X11_keep (l : Launch) (G : Gl) (F : Nat) (x1 : Int32) (M : zM)  (q : Unit × zM) (h : Mod_keep F x1 M = some q) : Met l yX11_keep (wsM yX11_keep cX11_keep 6 none) (rmM 0 0) (Pre G M [.ref (G.1 + 63), .int x1]) (PoV G q) 0 0 (gA G) := by
  refine r_met (own := RX11) rfl (by decide) (Nat.le_of_ble_eq_true rfl) ?_
  intro p e s m below meth c ls C hr hlk hS hl
  have hl : lv_has ls 6 [(0, .ref (G.1 + 63)), (1, .int x1)] := hl
  obtain ⟨hx, hb, -⟩ := id C
  unfold Mod_keep at h
  refine lv_aload_n hx hb dX11_keep_0 rfl (lv_at hl 0 rfl) ?_
  refine r_gR C hS fl_X11_7 rfl rfl rfl dX11_keep_1 ?_
  refine lv_iload_n hx hb dX11_keep_4 rfl (lv_at hl 1 rfl) ?_
  refine lv_aload_n hx hb dX11_keep_5 rfl (lv_at hl 0 rfl) ?_
  refine r_gI C hS fl_X11_185 rfl rfl dX11_keep_6 ?_
  obtain ⟨b_1, h⟩ := ift h
  obtain ⟨M_2, e_3, h⟩ := olt h
  refine r_iast C hS rfl rfl b_1 e_3 dX11_keep_9 (fun H locs hS => ?_)
  refine lv_iconst (v := 0) hx hb dX11_keep_10 (by decide) ?_
  refine lv_istore_n (lv' := [(2, .int 0), (0, .ref (G.1 + 63)), (1, .int x1)]) hx hb dX11_keep_11 rfl hl (by decide) rfl (fun ls hl => ?_)
  obtain ⟨⟨k_53, x2_51, M_52⟩, hq_54, h⟩ := ob h
  try dsimp only at h
  refine loopW (E := (E_Mod_keep_12 G p l e s m _ below meth c _ x1)) (w_Mod_keep_B12 C x1 F) F _ _ hq_54 ?_ _ _ _ hS (lv_sub hl [1, 2, 0] rfl)
  by_cases ek_55 : k_53 = 1
  · replace h := ifp ek_55 h
    subst ek_55
    intro H locs ls hS hl
    exact r_vret C hS hr hlk h dX11_keep_247
  · replace h := ifn ek_55 h
    cases h
def E_Mod_clauseFor_17 (G : Gl) (p : Program) (l : Launch) (e : Env) (s : State) (m : MethodId) (args : Array Value) (below : List Frame) (meth : Method) (c : Code) (Q : State → Prop) (x1 : Int32) (x2 : Int32) : Nat → (Int32 × Int32 × zM) → Prop := fun k (x3, x4, M) => match k with
  | 0 => ∀ (H : Heap) (locs : List Loc) (ls : Array Slot), St G M s H locs → lv_has ls 5 [(0, .ref (G.1 + 63)), (1, .int x1), (2, .int x2), (3, .int x3), (4, .int x4)] → W p l e (rmM 0 0) s m args below meth c H locs 0 0 Q (F0 m 17 ls [])
  | 1 => ∀ (H : Heap) (locs : List Loc) (ls : Array Slot), St G M s H locs → lv_has ls 5 [(0, .ref (G.1 + 63)), (1, .int x1), (2, .int x2), (3, .int x3)] → W p l e (rmM 0 0) s m args below meth c H locs 0 0 Q (F0 m 71 ls [])
  | _ => True
set_option maxHeartbeats 4000000 in
set_option maxRecDepth 100000 in
theorem w_Mod_clauseFor_B17 {G : Gl} {p : Program} {l : Launch} {e : Env} {s : State} {m : MethodId} {args : Array Value} {below : List Frame} {meth : Method} {c : Code} {Q : State → Prop} (C : Cx G cX11_clauseFor 5 RX11 p s m args c) (x1 : Int32) (x2 : Int32) (F : Nat) : ∀ (σ : (Int32 × Int32 × zM)) (q : Nat × (Int32 × Int32 × zM)), Mod_clauseFor_B17 F x1 x2 σ = some q → (E_Mod_clauseFor_17 G p l e s m args below meth c Q x1 x2) q.1 q.2 → (E_Mod_clauseFor_17 G p l e s m args below meth c Q x1 x2) 0 σ := by
  intro (x3, x4, M) q h hE H locs ls hS hl
  obtain ⟨hx, hb, -⟩ := id C
  unfold Mod_clauseFor_B17 at h
  try dsimp only at h
  refine lv_iload hx hb dX11_clauseFor_17 (lv_at hl 4 rfl) ?_
  refine lv_bipush (v := 12) hx hb dX11_clauseFor_19 (by decide) ?_
  refine lv_iload_n hx hb dX11_clauseFor_21 rfl (lv_at hl 1 rfl) ?_
  refine lv_imul hx hb dX11_clauseFor_22 ?_
  refine lv_icmp_lt (tgt := 71) hx hb dX11_clauseFor_23 (by decide) (fun c_4 => ?_) (fun c_4 => ?_)
  · replace h := ifp c_4 h
    obtain rfl := Option.some.inj h
    exact hE _ _ _ hS (lv_sub hl [0, 1, 2, 3] rfl)
  · replace h := ifn c_4 h
    refine lv_aload_n hx hb dX11_clauseFor_26 rfl (lv_at hl 0 rfl) ?_
    refine r_gR C hS fl_X11_13 rfl rfl rfl dX11_clauseFor_27 ?_
    refine lv_iload hx hb dX11_clauseFor_30 (lv_at hl 4 rfl) ?_
    obtain ⟨b_5, h⟩ := ift h
    refine r_zald C hS rfl rfl b_5 dX11_clauseFor_32 ?_
    refine lv_if_ne (tgt := 63) hx hb dX11_clauseFor_33 (by decide) (fun c_6 => ?_) (fun c_6 => ?_)
    · replace h := ifn c_6 h
      refine lv_iload_n hx hb dX11_clauseFor_63 rfl (lv_at hl 3 rfl) ?_
      refine lv_istore_n (lv' := [(3, .int x3), (0, .ref (G.1 + 63)), (1, .int x1), (2, .int x2), (4, .int x4)]) hx hb dX11_clauseFor_64 rfl hl (by decide) rfl (fun ls hl => ?_)
      obtain ⟨x4_7, e_8, h⟩ := olt h
      refine lv_iinc (v := x4_7) (lv' := [(4, .int x4_7), (3, .int x3), (0, .ref (G.1 + 63)), (1, .int x1), (2, .int x2)]) hx hb dX11_clauseFor_65 hl (k := 4) rfl (by rw [e_8]; rfl) (by decide) rfl (fun ls hl => ?_)
      refine lv_goto (tgt := 17) hx hb dX11_clauseFor_68 (by decide) ?_
      obtain rfl := Option.some.inj h
      exact hE _ _ _ hS (lv_sub hl [2, 3, 4, 1, 0] rfl)
    · replace h := ifp c_6 h
      refine lv_iload_n hx hb dX11_clauseFor_36 rfl (lv_at hl 2 rfl) ?_
      refine lv_aload_n hx hb dX11_clauseFor_37 rfl (lv_at hl 0 rfl) ?_
      refine r_gR C hS fl_X11_17 rfl rfl rfl dX11_clauseFor_38 ?_
      refine lv_iload hx hb dX11_clauseFor_41 (lv_at hl 4 rfl) ?_
      refine r_iald C hS rfl rfl b_5 dX11_clauseFor_43 ?_
      refine lv_icmp_lt (tgt := 63) hx hb dX11_clauseFor_44 (by decide) (fun c_9 => ?_) (fun c_9 => ?_)
      · replace h := ifp c_9 h
        refine lv_iload_n hx hb dX11_clauseFor_63 rfl (lv_at hl 3 rfl) ?_
        refine lv_istore_n (lv' := [(3, .int x3), (0, .ref (G.1 + 63)), (1, .int x1), (2, .int x2), (4, .int x4)]) hx hb dX11_clauseFor_64 rfl hl (by decide) rfl (fun ls hl => ?_)
        obtain ⟨x4_10, e_11, h⟩ := olt h
        refine lv_iinc (v := x4_10) (lv' := [(4, .int x4_10), (3, .int x3), (0, .ref (G.1 + 63)), (1, .int x1), (2, .int x2)]) hx hb dX11_clauseFor_65 hl (k := 4) rfl (by rw [e_11]; rfl) (by decide) rfl (fun ls hl => ?_)
        refine lv_goto (tgt := 17) hx hb dX11_clauseFor_68 (by decide) ?_
        obtain rfl := Option.some.inj h
        exact hE _ _ _ hS (lv_sub hl [2, 3, 4, 1, 0] rfl)
      · replace h := ifn c_9 h
        refine lv_iload_n hx hb dX11_clauseFor_47 rfl (lv_at hl 2 rfl) ?_
        refine lv_aload_n hx hb dX11_clauseFor_48 rfl (lv_at hl 0 rfl) ?_
        refine r_gR C hS fl_X11_20 rfl rfl rfl dX11_clauseFor_49 ?_
        refine lv_iload hx hb dX11_clauseFor_52 (lv_at hl 4 rfl) ?_
        refine r_iald C hS rfl rfl b_5 dX11_clauseFor_54 ?_
        refine lv_icmp_gt (tgt := 63) hx hb dX11_clauseFor_55 (by decide) (fun c_12 => ?_) (fun c_12 => ?_)
        · replace h := ifp c_12 h
          refine lv_iload_n hx hb dX11_clauseFor_63 rfl (lv_at hl 3 rfl) ?_
          refine lv_istore_n (lv' := [(3, .int x3), (0, .ref (G.1 + 63)), (1, .int x1), (2, .int x2), (4, .int x4)]) hx hb dX11_clauseFor_64 rfl hl (by decide) rfl (fun ls hl => ?_)
          obtain ⟨x4_13, e_14, h⟩ := olt h
          refine lv_iinc (v := x4_13) (lv' := [(4, .int x4_13), (3, .int x3), (0, .ref (G.1 + 63)), (1, .int x1), (2, .int x2)]) hx hb dX11_clauseFor_65 hl (k := 4) rfl (by rw [e_14]; rfl) (by decide) rfl (fun ls hl => ?_)
          refine lv_goto (tgt := 17) hx hb dX11_clauseFor_68 (by decide) ?_
          obtain rfl := Option.some.inj h
          exact hE _ _ _ hS (lv_sub hl [2, 3, 4, 1, 0] rfl)
        · replace h := ifn c_12 h
          refine lv_iload hx hb dX11_clauseFor_58 (lv_at hl 4 rfl) ?_
          refine lv_goto (tgt := 64) hx hb dX11_clauseFor_60 (by decide) ?_
          refine lv_istore_n (lv' := [(3, .int x4), (0, .ref (G.1 + 63)), (1, .int x1), (2, .int x2), (4, .int x4)]) hx hb dX11_clauseFor_64 rfl hl (by decide) rfl (fun ls hl => ?_)
          obtain ⟨x4_15, e_16, h⟩ := olt h
          refine lv_iinc (v := x4_15) (lv' := [(4, .int x4_15), (3, .int x4), (0, .ref (G.1 + 63)), (1, .int x1), (2, .int x2)]) hx hb dX11_clauseFor_65 hl (k := 4) rfl (by rw [e_16]; rfl) (by decide) rfl (fun ls hl => ?_)
          refine lv_goto (tgt := 17) hx hb dX11_clauseFor_68 (by decide) ?_
          obtain rfl := Option.some.inj h
          exact hE _ _ _ hS (lv_sub hl [2, 3, 4, 1, 0] rfl)
def E_Mod_clauseFor_77 (G : Gl) (p : Program) (l : Launch) (e : Env) (s : State) (m : MethodId) (args : Array Value) (below : List Frame) (meth : Method) (c : Code) (Q : State → Prop) (x1 : Int32) (x2 : Int32) : Nat → (Int32 × Int32 × zM) → Prop := fun k (x3, x4, M) => match k with
  | 0 => ∀ (H : Heap) (locs : List Loc) (ls : Array Slot), St G M s H locs → lv_has ls 5 [(0, .ref (G.1 + 63)), (1, .int x1), (2, .int x2), (3, .int x3), (4, .int x4)] → W p l e (rmM 0 0) s m args below meth c H locs 0 0 Q (F0 m 77 ls [])
  | 1 => ∀ (H : Heap) (locs : List Loc) (ls : Array Slot), St G M s H locs → lv_has ls 5 [(3, .int x3)] → W p l e (rmM 0 0) s m args below meth c H locs 0 0 Q (F0 m 127 ls [])
  | _ => True
set_option maxHeartbeats 4000000 in
set_option maxRecDepth 100000 in
theorem w_Mod_clauseFor_B77 {G : Gl} {p : Program} {l : Launch} {e : Env} {s : State} {m : MethodId} {args : Array Value} {below : List Frame} {meth : Method} {c : Code} {Q : State → Prop} (C : Cx G cX11_clauseFor 5 RX11 p s m args c) (x1 : Int32) (x2 : Int32) (F : Nat) : ∀ (σ : (Int32 × Int32 × zM)) (q : Nat × (Int32 × Int32 × zM)), Mod_clauseFor_B77 F x1 x2 σ = some q → (E_Mod_clauseFor_77 G p l e s m args below meth c Q x1 x2) q.1 q.2 → (E_Mod_clauseFor_77 G p l e s m args below meth c Q x1 x2) 0 σ := by
  intro (x3, x4, M) q h hE H locs ls hS hl
  obtain ⟨hx, hb, -⟩ := id C
  unfold Mod_clauseFor_B77 at h
  try dsimp only at h
  refine lv_iload hx hb dX11_clauseFor_77 (lv_at hl 4 rfl) ?_
  refine lv_bipush (v := 12) hx hb dX11_clauseFor_79 (by decide) ?_
  refine lv_iload_n hx hb dX11_clauseFor_81 rfl (lv_at hl 1 rfl) ?_
  refine lv_imul hx hb dX11_clauseFor_82 ?_
  refine lv_aload_n hx hb dX11_clauseFor_83 rfl (lv_at hl 0 rfl) ?_
  refine r_gR C hS fl_X11_7 rfl rfl rfl dX11_clauseFor_84 ?_
  refine lv_iload_n hx hb dX11_clauseFor_87 rfl (lv_at hl 1 rfl) ?_
  obtain ⟨b_24, h⟩ := ift h
  refine r_iald C hS rfl rfl b_24 dX11_clauseFor_88 ?_
  refine lv_iadd hx hb dX11_clauseFor_89 ?_
  refine lv_icmp_ge (tgt := 127) hx hb dX11_clauseFor_90 (by decide) (fun c_25 => ?_) (fun c_25 => ?_)
  · replace h := ifp c_25 h
    obtain rfl := Option.some.inj h
    exact hE _ _ _ hS (lv_sub hl [3] rfl)
  · replace h := ifn c_25 h
    refine lv_aload_n hx hb dX11_clauseFor_93 rfl (lv_at hl 0 rfl) ?_
    refine r_gR C hS fl_X11_13 rfl rfl rfl dX11_clauseFor_94 ?_
    refine lv_iload hx hb dX11_clauseFor_97 (lv_at hl 4 rfl) ?_
    obtain ⟨b_26, h⟩ := ift h
    refine r_zald C hS rfl rfl b_26 dX11_clauseFor_99 ?_
    refine lv_if_eq (tgt := 119) hx hb dX11_clauseFor_100 (by decide) (fun c_27 => ?_) (fun c_27 => ?_)
    · replace h := ifp c_27 h
      refine lv_iload_n hx hb dX11_clauseFor_119 rfl (lv_at hl 3 rfl) ?_
      refine lv_istore_n (lv' := [(3, .int x3), (0, .ref (G.1 + 63)), (1, .int x1), (2, .int x2), (4, .int x4)]) hx hb dX11_clauseFor_120 rfl hl (by decide) rfl (fun ls hl => ?_)
      obtain ⟨x4_28, e_29, h⟩ := olt h
      refine lv_iinc (v := x4_28) (lv' := [(4, .int x4_28), (3, .int x3), (0, .ref (G.1 + 63)), (1, .int x1), (2, .int x2)]) hx hb dX11_clauseFor_121 hl (k := 4) rfl (by rw [e_29]; rfl) (by decide) rfl (fun ls hl => ?_)
      refine lv_goto (tgt := 77) hx hb dX11_clauseFor_124 (by decide) ?_
      obtain rfl := Option.some.inj h
      exact hE _ _ _ hS (lv_sub hl [2, 3, 4, 1, 0] rfl)
    · replace h := ifn c_27 h
      refine lv_iload_n hx hb dX11_clauseFor_103 rfl (lv_at hl 2 rfl) ?_
      refine lv_aload_n hx hb dX11_clauseFor_104 rfl (lv_at hl 0 rfl) ?_
      refine r_gR C hS fl_X11_17 rfl rfl rfl dX11_clauseFor_105 ?_
      refine lv_iload hx hb dX11_clauseFor_108 (lv_at hl 4 rfl) ?_
      refine r_iald C hS rfl rfl b_26 dX11_clauseFor_110 ?_
      refine lv_icmp_ne (tgt := 119) hx hb dX11_clauseFor_111 (by decide) (fun c_30 => ?_) (fun c_30 => ?_)
      · replace h := ifn c_30 h
        refine lv_iload_n hx hb dX11_clauseFor_119 rfl (lv_at hl 3 rfl) ?_
        refine lv_istore_n (lv' := [(3, .int x3), (0, .ref (G.1 + 63)), (1, .int x1), (2, .int x2), (4, .int x4)]) hx hb dX11_clauseFor_120 rfl hl (by decide) rfl (fun ls hl => ?_)
        obtain ⟨x4_31, e_32, h⟩ := olt h
        refine lv_iinc (v := x4_31) (lv' := [(4, .int x4_31), (3, .int x3), (0, .ref (G.1 + 63)), (1, .int x1), (2, .int x2)]) hx hb dX11_clauseFor_121 hl (k := 4) rfl (by rw [e_32]; rfl) (by decide) rfl (fun ls hl => ?_)
        refine lv_goto (tgt := 77) hx hb dX11_clauseFor_124 (by decide) ?_
        obtain rfl := Option.some.inj h
        exact hE _ _ _ hS (lv_sub hl [2, 3, 4, 1, 0] rfl)
      · replace h := ifp c_30 h
        refine lv_iload hx hb dX11_clauseFor_114 (lv_at hl 4 rfl) ?_
        refine lv_goto (tgt := 120) hx hb dX11_clauseFor_116 (by decide) ?_
        refine lv_istore_n (lv' := [(3, .int x4), (0, .ref (G.1 + 63)), (1, .int x1), (2, .int x2), (4, .int x4)]) hx hb dX11_clauseFor_120 rfl hl (by decide) rfl (fun ls hl => ?_)
        obtain ⟨x4_33, e_34, h⟩ := olt h
        refine lv_iinc (v := x4_33) (lv' := [(4, .int x4_33), (3, .int x4), (0, .ref (G.1 + 63)), (1, .int x1), (2, .int x2)]) hx hb dX11_clauseFor_121 hl (k := 4) rfl (by rw [e_34]; rfl) (by decide) rfl (fun ls hl => ?_)
        refine lv_goto (tgt := 77) hx hb dX11_clauseFor_124 (by decide) ?_
        obtain rfl := Option.some.inj h
        exact hE _ _ _ hS (lv_sub hl [2, 3, 4, 1, 0] rfl)
set_option maxHeartbeats 4000000 in
set_option maxRecDepth 100000 in
theorem c_X11_clauseFor (l : Launch) (G : Gl) (F : Nat) (x1 : Int32) (x2 : Int32) (M : zM)  (q : Int32 × zM) (h : Mod_clauseFor F x1 x2 M = some q) : Met l yX11_clauseFor (wsM yX11_clauseFor cX11_clauseFor 5 (some .int)) (rmM 0 0) (Pre G M [.ref (G.1 + 63), .int x1, .int x2]) (PoI G q) 0 0 (gA G) := by
  refine r_met (own := RX11) rfl (by decide) (Nat.le_of_ble_eq_true rfl) ?_
  intro p e s m below meth c ls C hr hlk hS hl
  have hl : lv_has ls 5 [(0, .ref (G.1 + 63)), (1, .int x1), (2, .int x2)] := hl
  obtain ⟨hx, hb, -⟩ := id C
  unfold Mod_clauseFor at h
  refine lv_iconst (v := (-1)) hx hb dX11_clauseFor_0 (by decide) ?_
  refine lv_istore_n (lv' := [(3, .int (-1)), (0, .ref (G.1 + 63)), (1, .int x1), (2, .int x2)]) hx hb dX11_clauseFor_1 rfl hl (by decide) rfl (fun ls hl => ?_)
  refine lv_bipush (v := 12) hx hb dX11_clauseFor_2 (by decide) ?_
  refine lv_iload_n hx hb dX11_clauseFor_4 rfl (lv_at hl 2 rfl) ?_
  refine lv_imul hx hb dX11_clauseFor_5 ?_
  refine lv_aload_n hx hb dX11_clauseFor_6 rfl (lv_at hl 1 rfl) ?_
  refine r_gR C hS fl_X11_7 rfl rfl rfl dX11_clauseFor_7 ?_
  refine lv_iload_n hx hb dX11_clauseFor_10 rfl (lv_at hl 2 rfl) ?_
  obtain ⟨b_1, h⟩ := ift h
  refine r_iald C hS rfl rfl b_1 dX11_clauseFor_11 ?_
  refine lv_iadd hx hb dX11_clauseFor_12 ?_
  refine lv_iconst (v := 1) hx hb dX11_clauseFor_13 (by decide) ?_
  refine lv_isub hx hb dX11_clauseFor_14 ?_
  obtain ⟨x4_2, e_3, h⟩ := olt h
  refine r_nI e_3 ?_
  refine lv_istore (lv' := [(4, .int x4_2), (3, .int (-1)), (0, .ref (G.1 + 63)), (1, .int x1), (2, .int x2)]) hx hb dX11_clauseFor_15 hl (by decide) rfl (fun ls hl => ?_)
  obtain ⟨⟨k_20, x3_17, x4_18, M_19⟩, hq_21, h⟩ := ob h
  try dsimp only at h
  refine loopW (E := (E_Mod_clauseFor_17 G p l e s m _ below meth c _ x1 x2)) (w_Mod_clauseFor_B17 C x1 x2 F) F _ _ hq_21 ?_ _ _ _ hS (lv_sub hl [2, 3, 4, 1, 0] rfl)
  by_cases ek_41 : k_20 = 1
  · replace h := ifp ek_41 h
    subst ek_41
    intro H locs ls hS hl
    refine lv_bipush (v := 12) hx hb dX11_clauseFor_71 (by decide) ?_
    refine lv_iload_n hx hb dX11_clauseFor_73 rfl (lv_at hl 1 rfl) ?_
    refine lv_imul hx hb dX11_clauseFor_74 ?_
    obtain ⟨x4_22, e_23, h⟩ := olt h
    refine r_nI e_23 ?_
    refine lv_istore (lv' := [(4, .int x4_22), (0, .ref (G.1 + 63)), (1, .int x1), (2, .int x2), (3, .int x3_17)]) hx hb dX11_clauseFor_75 hl (by decide) rfl (fun ls hl => ?_)
    obtain ⟨⟨k_38, x3_35, x4_36, M_37⟩, hq_39, h⟩ := ob h
    try dsimp only at h
    refine loopW (E := (E_Mod_clauseFor_77 G p l e s m _ below meth c _ x1 x2)) (w_Mod_clauseFor_B77 C x1 x2 F) F _ _ hq_39 ?_ _ _ _ hS (lv_sub hl [1, 2, 3, 4, 0] rfl)
    by_cases ek_40 : k_38 = 1
    · replace h := ifp ek_40 h
      subst ek_40
      intro H locs ls hS hl
      refine lv_iload_n hx hb dX11_clauseFor_127 rfl (lv_at hl 0 rfl) ?_
      exact r_iret C hS hr hlk h dX11_clauseFor_128
    · replace h := ifn ek_40 h
      cases h
  · replace h := ifn ek_41 h
    cases h
set_option maxHeartbeats 4000000 in
set_option maxRecDepth 100000 in
theorem c_X11_isThere (l : Launch) (G : Gl) (F : Nat) (x1 : Int32) (x2 : Int32) (x3 : Int32) (M : zM)  (q : Int32 × zM) (h : Mod_isThere F x1 x2 x3 M = some q) : Met l yX11_isThere (wsM yX11_isThere cX11_isThere 4 (some .boolean)) (rmM 0 0) (Pre G M [.ref (G.1 + 63), .int x1, .int x2, .int x3]) (PoI G q) 0 0 (gA G) := by
  refine r_met (own := RX11) rfl (by decide) (Nat.le_of_ble_eq_true rfl) ?_
  intro p e s m below meth c ls C hr hlk hS hl
  have hl : lv_has ls 4 [(0, .ref (G.1 + 63)), (1, .int x1), (2, .int x2), (3, .int x3)] := hl
  obtain ⟨hx, hb, -⟩ := id C
  unfold Mod_isThere at h
  refine lv_aload_n hx hb dX11_isThere_0 rfl (lv_at hl 0 rfl) ?_
  refine r_gR C hS fl_X11_32 rfl rfl rfl dX11_isThere_1 ?_
  refine lv_iload_n hx hb dX11_isThere_4 rfl (lv_at hl 1 rfl) ?_
  obtain ⟨b_1, h⟩ := ift h
  refine r_zald C hS rfl rfl b_1 dX11_isThere_5 ?_
  refine lv_if_eq (tgt := 20) hx hb dX11_isThere_6 (by decide) (fun c_2 => ?_) (fun c_2 => ?_)
  · replace h := ifp c_2 h
    refine lv_iconst (v := 1) hx hb dX11_isThere_20 (by decide) ?_
    refine lv_goto (tgt := 25) hx hb dX11_isThere_21 (by decide) ?_
    exact r_zret C hS hr hlk h dX11_isThere_25
  · replace h := ifn c_2 h
    refine lv_iload_n hx hb dX11_isThere_9 rfl (lv_at hl 3 rfl) ?_
    refine lv_aload_n hx hb dX11_isThere_10 rfl (lv_at hl 0 rfl) ?_
    refine r_gR C hS fl_X11_23 rfl rfl rfl dX11_isThere_11 ?_
    refine lv_iload_n hx hb dX11_isThere_14 rfl (lv_at hl 2 rfl) ?_
    obtain ⟨b_3, h⟩ := ift h
    refine r_iald C hS rfl rfl b_3 dX11_isThere_15 ?_
    obtain ⟨b_4, h⟩ := ift h
    refine lv_irem hx hb dX11_isThere_16 b_4 ?_
    refine lv_if_eq (tgt := 24) hx hb dX11_isThere_17 (by decide) (fun c_5 => ?_) (fun c_5 => ?_)
    · replace h := ifp c_5 h
      refine lv_iconst (v := 0) hx hb dX11_isThere_24 (by decide) ?_
      exact r_zret C hS hr hlk h dX11_isThere_25
    · replace h := ifn c_5 h
      refine lv_iconst (v := 1) hx hb dX11_isThere_20 (by decide) ?_
      refine lv_goto (tgt := 25) hx hb dX11_isThere_21 (by decide) ?_
      exact r_zret C hS hr hlk h dX11_isThere_25
set_option maxHeartbeats 4000000 in
set_option maxRecDepth 100000 in
theorem c_X11_numberOf (l : Launch) (G : Gl) (F : Nat) (x1 : Int32) (x2 : Int32) (x3 : Int32) (M : zM)  (q : Int32 × zM) (h : Mod_numberOf F x1 x2 x3 M = some q) : Met l yX11_numberOf (wsM yX11_numberOf cX11_numberOf 6 (some .int)) (rmM 0 0) (Pre G M [.ref (G.1 + 63), .int x1, .int x2, .int x3]) (PoI G q) 0 0 (gA G) := by
  refine r_met (own := RX11) rfl (by decide) (Nat.le_of_ble_eq_true rfl) ?_
  intro p e s m below meth c ls C hr hlk hS hl
  have hl : lv_has ls 6 [(0, .ref (G.1 + 63)), (1, .int x1), (2, .int x2), (3, .int x3)] := hl
  obtain ⟨hx, hb, -⟩ := id C
  unfold Mod_numberOf at h
  refine lv_aload_n hx hb dX11_numberOf_0 rfl (lv_at hl 0 rfl) ?_
  refine r_gR C hS fl_X11_23 rfl rfl rfl dX11_numberOf_1 ?_
  refine lv_iload_n hx hb dX11_numberOf_4 rfl (lv_at hl 2 rfl) ?_
  obtain ⟨b_1, h⟩ := ift h
  refine r_iald C hS rfl rfl b_1 dX11_numberOf_5 ?_
  obtain ⟨x4_2, e_3, h⟩ := olt h
  refine r_nI e_3 ?_
  refine lv_istore (lv' := [(4, .int x4_2), (0, .ref (G.1 + 63)), (1, .int x1), (2, .int x2), (3, .int x3)]) hx hb dX11_numberOf_6 hl (by decide) rfl (fun ls hl => ?_)
  refine lv_iload_n hx hb dX11_numberOf_8 rfl (lv_at hl 4 rfl) ?_
  refine lv_iload hx hb dX11_numberOf_9 (lv_at hl 0 rfl) ?_
  obtain ⟨b_4, h⟩ := ift h
  refine lv_irem hx hb dX11_numberOf_11 b_4 ?_
  obtain ⟨x5_5, e_6, h⟩ := olt h
  refine r_nI e_6 ?_
  refine lv_istore (lv' := [(5, .int x5_5), (4, .int x4_2), (0, .ref (G.1 + 63)), (1, .int x1), (2, .int x2), (3, .int x3)]) hx hb dX11_numberOf_12 hl (by decide) rfl (fun ls hl => ?_)
  refine lv_aload_n hx hb dX11_numberOf_14 rfl (lv_at hl 2 rfl) ?_
  refine r_gR C hS fl_X11_29 rfl rfl rfl dX11_numberOf_15 ?_
  refine lv_iload_n hx hb dX11_numberOf_18 rfl (lv_at hl 3 rfl) ?_
  obtain ⟨b_7, h⟩ := ift h
  refine r_iald C hS rfl rfl b_7 dX11_numberOf_19 ?_
  by_cases c_8 : (M.1 70 x1.toNatClampNeg) = 1
  · replace h := ifp c_8 h
    refine r_nI c_8.symm ?_
    refine lv_tableIn (tgt := 56) (off := 36) hx hb dX11_numberOf_20 (by decide) (by decide) (by decide) (by decide) ?_
    refine lv_iload_n hx hb dX11_numberOf_56 rfl (lv_at hl 5 rfl) ?_
    refine lv_iload hx hb dX11_numberOf_57 (lv_at hl 1 rfl) ?_
    refine lv_idiv hx hb dX11_numberOf_59 b_4 ?_
    exact r_iret C hS hr hlk h dX11_numberOf_60
  · replace h := ifn c_8 h
    by_cases c_9 : (M.1 70 x1.toNatClampNeg) = 2
    · replace h := ifp c_9 h
      refine r_nI c_9.symm ?_
      refine lv_tableIn (tgt := 61) (off := 41) hx hb dX11_numberOf_20 (by decide) (by decide) (by decide) (by decide) ?_
      refine lv_iload_n hx hb dX11_numberOf_61 rfl (lv_at hl 5 rfl) ?_
      refine lv_iload hx hb dX11_numberOf_62 (lv_at hl 0 rfl) ?_
      refine lv_isub hx hb dX11_numberOf_64 ?_
      exact r_iret C hS hr hlk h dX11_numberOf_65
    · replace h := ifn c_9 h
      by_cases c_10 : (M.1 70 x1.toNatClampNeg) = 3
      · replace h := ifp c_10 h
        refine r_nI c_10.symm ?_
        refine lv_tableIn (tgt := 66) (off := 46) hx hb dX11_numberOf_20 (by decide) (by decide) (by decide) (by decide) ?_
        refine lv_iload hx hb dX11_numberOf_66 (lv_at hl 0 rfl) ?_
        exact r_iret C hS hr hlk h dX11_numberOf_68
      · replace h := ifn c_10 h
        by_cases c_11 : (M.1 70 x1.toNatClampNeg) = 4
        · replace h := ifp c_11 h
          refine r_nI c_11.symm ?_
          refine lv_tableIn (tgt := 69) (off := 49) hx hb dX11_numberOf_20 (by decide) (by decide) (by decide) (by decide) ?_
          refine lv_iload hx hb dX11_numberOf_69 (lv_at hl 1 rfl) ?_
          refine lv_iload hx hb dX11_numberOf_71 (lv_at hl 0 rfl) ?_
          refine lv_isub hx hb dX11_numberOf_73 ?_
          exact r_iret C hS hr hlk h dX11_numberOf_74
        · replace h := ifn c_11 h
          by_cases c_12 : (M.1 70 x1.toNatClampNeg) = 5
          · replace h := ifp c_12 h
            refine r_nI c_12.symm ?_
            refine lv_tableIn (tgt := 75) (off := 55) hx hb dX11_numberOf_20 (by decide) (by decide) (by decide) (by decide) ?_
            refine lv_iload_n hx hb dX11_numberOf_75 rfl (lv_at hl 5 rfl) ?_
            refine lv_iload hx hb dX11_numberOf_76 (lv_at hl 0 rfl) ?_
            refine lv_isub hx hb dX11_numberOf_78 ?_
            refine lv_iload hx hb dX11_numberOf_79 (lv_at hl 1 rfl) ?_
            refine lv_iadd hx hb dX11_numberOf_81 ?_
            exact r_iret C hS hr hlk h dX11_numberOf_82
          · replace h := ifn c_12 h
            refine lv_tableOut (tgt := 83) hx hb dX11_numberOf_20 (by have := ne_toInt c_8 (n := 1) (by decide); have := ne_toInt c_9 (n := 2) (by decide); have := ne_toInt c_10 (n := 3) (by decide); have := ne_toInt c_11 (n := 4) (by decide); have := ne_toInt c_12 (n := 5) (by decide); omega) (by decide) ?_
            refine lv_iconst (v := (-1)) hx hb dX11_numberOf_83 (by decide) ?_
            exact r_iret C hS hr hlk h dX11_numberOf_84
def E_Mod_stateOf_8 (G : Gl) (p : Program) (l : Launch) (e : Env) (s : State) (m : MethodId) (args : Array Value) (below : List Frame) (meth : Method) (c : Code) (Q : State → Prop) (x1 : Int32) (x2 : Int32) : Nat → (Int32 × Int32 × zM) → Prop := fun k (x3, x4, M) => match k with
  | 0 => ∀ (H : Heap) (locs : List Loc) (ls : Array Slot), St G M s H locs → lv_has ls 7 [(0, .ref (G.1 + 63)), (1, .int x1), (2, .int x2), (3, .int x3), (4, .int x4)] → W p l e (rmM 2 45) s m args below meth c H locs 0 0 Q (F0 m 8 ls [])
  | 1 => ∀ (H : Heap) (locs : List Loc) (ls : Array Slot), St G M s H locs → lv_has ls 7 [(3, .int x3)] → W p l e (rmM 2 45) s m args below meth c H locs 0 0 Q (F0 m 108 ls [])
  | _ => True
set_option maxHeartbeats 4000000 in
set_option maxRecDepth 100000 in
theorem w_Mod_stateOf_J74 {G : Gl} {p : Program} {l : Launch} {e : Env} {s : State} {m : MethodId} {args : Array Value} {below : List Frame} {meth : Method} {c : Code} {Q : State → Prop} (C : Cx G cX11_stateOf 7 RX11 p s m args c) (x1 : Int32) (x2 : Int32) (F : Nat) (x3 : Int32) (x4 : Int32) (y0 : Int32) (M : zM)  (q : Nat × (Int32 × Int32 × zM)) (h : Mod_stateOf_J74 F x1 x2 x3 x4 y0 M = some q) (hE : (E_Mod_stateOf_8 G p l e s m args below meth c Q x1 x2) q.1 q.2) (H : Heap) (locs : List Loc) (ls : Array Slot) (hS : St G M s H locs) (hl : lv_has ls 7 [(0, .ref (G.1 + 63)), (1, .int x1), (2, .int x2), (3, .int x3), (4, .int x4)]) : W p l e (rmM 2 45) s m args below meth c H locs 0 0 Q (F0 m 74 ls [.int y0]) := by
  obtain ⟨hx, hb, -⟩ := id C
  unfold Mod_stateOf_J74 at h
  refine lv_istore (lv' := [(6, .int y0), (0, .ref (G.1 + 63)), (1, .int x1), (2, .int x2), (3, .int x3), (4, .int x4)]) hx hb dX11_stateOf_74 hl (by decide) rfl (fun ls hl => ?_)
  refine lv_iload hx hb dX11_stateOf_76 (lv_at hl 0 rfl) ?_
  refine lv_iconst (v := 2) hx hb dX11_stateOf_78 (by decide) ?_
  refine lv_icmp_eq (tgt := 87) hx hb dX11_stateOf_79 (by decide) (fun c_22 => ?_) (fun c_22 => ?_)
  · replace h := ifp c_22 h
    refine lv_iconst (v := 2) hx hb dX11_stateOf_87 (by decide) ?_
    refine lv_goto (tgt := 101) hx hb dX11_stateOf_88 (by decide) ?_
    refine lv_istore_n (lv' := [(3, .int 2), (6, .int y0), (0, .ref (G.1 + 63)), (1, .int x1), (2, .int x2), (4, .int x4)]) hx hb dX11_stateOf_101 rfl hl (by decide) rfl (fun ls hl => ?_)
    obtain ⟨x4_23, e_24, h⟩ := olt h
    refine lv_iinc (v := x4_23) (lv' := [(4, .int x4_23), (3, .int 2), (6, .int y0), (0, .ref (G.1 + 63)), (1, .int x1), (2, .int x2)]) hx hb dX11_stateOf_102 hl (k := 5) rfl (by rw [e_24]; rfl) (by decide) rfl (fun ls hl => ?_)
    refine lv_goto (tgt := 8) hx hb dX11_stateOf_105 (by decide) ?_
    obtain rfl := Option.some.inj h
    exact hE _ _ _ hS (lv_sub hl [3, 4, 5, 1, 0] rfl)
  · replace h := ifn c_22 h
    refine lv_iload_n hx hb dX11_stateOf_82 rfl (lv_at hl 4 rfl) ?_
    refine lv_iconst (v := 2) hx hb dX11_stateOf_83 (by decide) ?_
    refine lv_icmp_ne (tgt := 91) hx hb dX11_stateOf_84 (by decide) (fun c_25 => ?_) (fun c_25 => ?_)
    · replace h := ifn c_25 h
      refine lv_iload hx hb dX11_stateOf_91 (lv_at hl 0 rfl) ?_
      refine lv_if_ne (tgt := 100) hx hb dX11_stateOf_93 (by decide) (fun c_26 => ?_) (fun c_26 => ?_)
      · replace h := ifn c_26 h
        refine lv_iload_n hx hb dX11_stateOf_100 rfl (lv_at hl 4 rfl) ?_
        refine lv_istore_n (lv' := [(3, .int x3), (6, .int y0), (0, .ref (G.1 + 63)), (1, .int x1), (2, .int x2), (4, .int x4)]) hx hb dX11_stateOf_101 rfl hl (by decide) rfl (fun ls hl => ?_)
        obtain ⟨x4_27, e_28, h⟩ := olt h
        refine lv_iinc (v := x4_27) (lv' := [(4, .int x4_27), (3, .int x3), (6, .int y0), (0, .ref (G.1 + 63)), (1, .int x1), (2, .int x2)]) hx hb dX11_stateOf_102 hl (k := 5) rfl (by rw [e_28]; rfl) (by decide) rfl (fun ls hl => ?_)
        refine lv_goto (tgt := 8) hx hb dX11_stateOf_105 (by decide) ?_
        obtain rfl := Option.some.inj h
        exact hE _ _ _ hS (lv_sub hl [3, 4, 5, 1, 0] rfl)
      · replace h := ifp c_26 h
        refine lv_iconst (v := 0) hx hb dX11_stateOf_96 (by decide) ?_
        refine lv_goto (tgt := 101) hx hb dX11_stateOf_97 (by decide) ?_
        refine lv_istore_n (lv' := [(3, .int 0), (6, .int y0), (0, .ref (G.1 + 63)), (1, .int x1), (2, .int x2), (4, .int x4)]) hx hb dX11_stateOf_101 rfl hl (by decide) rfl (fun ls hl => ?_)
        obtain ⟨x4_29, e_30, h⟩ := olt h
        refine lv_iinc (v := x4_29) (lv' := [(4, .int x4_29), (3, .int 0), (6, .int y0), (0, .ref (G.1 + 63)), (1, .int x1), (2, .int x2)]) hx hb dX11_stateOf_102 hl (k := 5) rfl (by rw [e_30]; rfl) (by decide) rfl (fun ls hl => ?_)
        refine lv_goto (tgt := 8) hx hb dX11_stateOf_105 (by decide) ?_
        obtain rfl := Option.some.inj h
        exact hE _ _ _ hS (lv_sub hl [3, 4, 5, 1, 0] rfl)
    · replace h := ifp c_25 h
      refine lv_iconst (v := 2) hx hb dX11_stateOf_87 (by decide) ?_
      refine lv_goto (tgt := 101) hx hb dX11_stateOf_88 (by decide) ?_
      refine lv_istore_n (lv' := [(3, .int 2), (6, .int y0), (0, .ref (G.1 + 63)), (1, .int x1), (2, .int x2), (4, .int x4)]) hx hb dX11_stateOf_101 rfl hl (by decide) rfl (fun ls hl => ?_)
      obtain ⟨x4_31, e_32, h⟩ := olt h
      refine lv_iinc (v := x4_31) (lv' := [(4, .int x4_31), (3, .int 2), (6, .int y0), (0, .ref (G.1 + 63)), (1, .int x1), (2, .int x2)]) hx hb dX11_stateOf_102 hl (k := 5) rfl (by rw [e_32]; rfl) (by decide) rfl (fun ls hl => ?_)
      refine lv_goto (tgt := 8) hx hb dX11_stateOf_105 (by decide) ?_
      obtain rfl := Option.some.inj h
      exact hE _ _ _ hS (lv_sub hl [3, 4, 5, 1, 0] rfl)
set_option maxHeartbeats 4000000 in
set_option maxRecDepth 100000 in
theorem w_Mod_stateOf_B8 {G : Gl} {p : Program} {l : Launch} {e : Env} {s : State} {m : MethodId} {args : Array Value} {below : List Frame} {meth : Method} {c : Code} {Q : State → Prop} (C : Cx G cX11_stateOf 7 RX11 p s m args c) (x1 : Int32) (x2 : Int32) (F : Nat) : ∀ (σ : (Int32 × Int32 × zM)) (q : Nat × (Int32 × Int32 × zM)), Mod_stateOf_B8 F x1 x2 σ = some q → (E_Mod_stateOf_8 G p l e s m args below meth c Q x1 x2) q.1 q.2 → (E_Mod_stateOf_8 G p l e s m args below meth c Q x1 x2) 0 σ := by
  intro (x3, x4, M) q h hE H locs ls hS hl
  obtain ⟨hx, hb, -⟩ := id C
  unfold Mod_stateOf_B8 at h
  try dsimp only at h
  refine lv_iload hx hb dX11_stateOf_8 (lv_at hl 4 rfl) ?_
  refine lv_bipush (v := 8) hx hb dX11_stateOf_10 (by decide) ?_
  refine lv_iload_n hx hb dX11_stateOf_12 rfl (lv_at hl 1 rfl) ?_
  refine lv_imul hx hb dX11_stateOf_13 ?_
  refine lv_aload_n hx hb dX11_stateOf_14 rfl (lv_at hl 0 rfl) ?_
  refine r_gR C hS fl_X11_26 rfl rfl rfl dX11_stateOf_15 ?_
  refine lv_iload_n hx hb dX11_stateOf_18 rfl (lv_at hl 1 rfl) ?_
  obtain ⟨b_3, h⟩ := ift h
  refine r_iald C hS rfl rfl b_3 dX11_stateOf_19 ?_
  refine lv_iadd hx hb dX11_stateOf_20 ?_
  refine lv_icmp_ge (tgt := 108) hx hb dX11_stateOf_21 (by decide) (fun c_4 => ?_) (fun c_4 => ?_)
  · replace h := ifp c_4 h
    obtain rfl := Option.some.inj h
    exact hE _ _ _ hS (lv_sub hl [3] rfl)
  · replace h := ifn c_4 h
    refine lv_aload_n hx hb dX11_stateOf_24 rfl (lv_at hl 0 rfl) ?_
    refine r_gR C hS fl_X11_29 rfl rfl rfl dX11_stateOf_25 ?_
    refine lv_iload hx hb dX11_stateOf_28 (lv_at hl 4 rfl) ?_
    obtain ⟨b_5, h⟩ := ift h
    refine r_iald C hS rfl rfl b_5 dX11_stateOf_30 ?_
    refine lv_if_eq (tgt := 102) hx hb dX11_stateOf_31 (by decide) (fun c_6 => ?_) (fun c_6 => ?_)
    · replace h := ifp c_6 h
      obtain ⟨x4_7, e_8, h⟩ := olt h
      refine lv_iinc (v := x4_7) (lv' := [(4, .int x4_7), (0, .ref (G.1 + 63)), (1, .int x1), (2, .int x2), (3, .int x3)]) hx hb dX11_stateOf_102 hl (k := 4) rfl (by rw [e_8]; rfl) (by decide) rfl (fun ls hl => ?_)
      refine lv_goto (tgt := 8) hx hb dX11_stateOf_105 (by decide) ?_
      obtain rfl := Option.some.inj h
      exact hE _ _ _ hS (lv_sub hl [1, 2, 3, 4, 0] rfl)
    · replace h := ifn c_6 h
      refine lv_aload_n hx hb dX11_stateOf_34 rfl (lv_at hl 0 rfl) ?_
      refine lv_iload hx hb dX11_stateOf_35 (lv_at hl 4 rfl) ?_
      refine lv_iload_n hx hb dX11_stateOf_37 rfl (lv_at hl 1 rfl) ?_
      refine lv_iload_n hx hb dX11_stateOf_38 rfl (lv_at hl 2 rfl) ?_
      obtain ⟨⟨r_9, M_10⟩, hq_11, h⟩ := ob h
      try dsimp only at h
      refine r_thenI hS (r_runV C hS hl.1 cv_X11_208 rfl (c_X11_isThere l G F x4 x1 x2 M  _ hq_11) ⟨by decide, by decide⟩ rfl rfl (Nat.le_of_ble_eq_true rfl) ⟨Nat.zero_le _, Nat.zero_le _⟩ dX11_stateOf_39) (fun H locs hS => ?_)
      refine lv_if_eq (tgt := 102) hx hb dX11_stateOf_42 (by decide) (fun c_12 => ?_) (fun c_12 => ?_)
      · replace h := ifp c_12 h
        obtain ⟨x4_13, e_14, h⟩ := olt h
        refine lv_iinc (v := x4_13) (lv' := [(4, .int x4_13), (0, .ref (G.1 + 63)), (1, .int x1), (2, .int x2), (3, .int x3)]) hx hb dX11_stateOf_102 hl (k := 4) rfl (by rw [e_14]; rfl) (by decide) rfl (fun ls hl => ?_)
        refine lv_goto (tgt := 8) hx hb dX11_stateOf_105 (by decide) ?_
        obtain rfl := Option.some.inj h
        exact hE _ _ _ hS (lv_sub hl [1, 2, 3, 4, 0] rfl)
      · replace h := ifn c_12 h
        refine lv_aload_n hx hb dX11_stateOf_45 rfl (lv_at hl 0 rfl) ?_
        refine lv_iload hx hb dX11_stateOf_46 (lv_at hl 4 rfl) ?_
        refine lv_iload_n hx hb dX11_stateOf_48 rfl (lv_at hl 1 rfl) ?_
        refine lv_iload_n hx hb dX11_stateOf_49 rfl (lv_at hl 2 rfl) ?_
        obtain ⟨⟨r_15, M_16⟩, hq_17, h⟩ := ob h
        try dsimp only at h
        refine r_thenI hS (r_runV C hS hl.1 cv_X11_212 rfl (c_X11_numberOf l G F x4 x1 x2 M_10  _ hq_17) ⟨by decide, by decide⟩ rfl rfl (Nat.le_of_ble_eq_true rfl) ⟨Nat.zero_le _, Nat.zero_le _⟩ dX11_stateOf_50) (fun H locs hS => ?_)
        refine lv_istore (lv' := [(5, .int r_15), (0, .ref (G.1 + 63)), (1, .int x1), (2, .int x2), (3, .int x3), (4, .int x4)]) hx hb dX11_stateOf_53 hl (by decide) rfl (fun ls hl => ?_)
        refine lv_iload hx hb dX11_stateOf_55 (lv_at hl 0 rfl) ?_
        obtain ⟨⟨r_18, M_19⟩, hq_20, h⟩ := ob h
        try dsimp only at h
        refine r_thenI hS (r_runS C hS hl.1 cs_X11_216 (c_X11_isNumber l G F r_15 M_16  _ hq_20) ⟨by decide, by decide⟩ rfl rfl (Nat.le_of_ble_eq_true rfl) ⟨Nat.zero_le _, Nat.zero_le _⟩ dX11_stateOf_57) (fun H locs hS => ?_)
        refine lv_if_eq (tgt := 73) hx hb dX11_stateOf_60 (by decide) (fun c_21 => ?_) (fun c_21 => ?_)
        · replace h := ifp c_21 h
          refine lv_iconst (v := 2) hx hb dX11_stateOf_73 (by decide) ?_
          exact w_Mod_stateOf_J74 C x1 x2 F x3 x4 2 M_19  q h hE _ _ _ hS (lv_sub hl [1, 2, 3, 4, 5] rfl)
        · replace h := ifn c_21 h
          refine lv_aload_n hx hb dX11_stateOf_63 rfl (lv_at hl 1 rfl) ?_
          refine r_gR C hS fl_X11_94 rfl rfl rfl dX11_stateOf_64 ?_
          refine lv_iload hx hb dX11_stateOf_67 (lv_at hl 0 rfl) ?_
          obtain ⟨b_33, h⟩ := ift h
          refine r_iald C hS rfl rfl b_33 dX11_stateOf_69 ?_
          refine lv_goto (tgt := 74) hx hb dX11_stateOf_70 (by decide) ?_
          exact w_Mod_stateOf_J74 C x1 x2 F x3 x4 (M_19.1 90 r_15.toNatClampNeg) M_19  q h hE _ _ _ hS (lv_sub hl [1, 2, 3, 4, 5] rfl)
set_option maxHeartbeats 4000000 in
set_option maxRecDepth 100000 in
theorem c_X11_stateOf (l : Launch) (G : Gl) (F : Nat) (x1 : Int32) (x2 : Int32) (M : zM)  (q : Int32 × zM) (h : Mod_stateOf F x1 x2 M = some q) : Met l yX11_stateOf (wsM yX11_stateOf cX11_stateOf 7 (some .int)) (rmM 2 45) (Pre G M [.ref (G.1 + 63), .int x1, .int x2]) (PoI G q) 0 0 (gA G) := by
  refine r_met (own := RX11) rfl (by decide) (Nat.le_of_ble_eq_true rfl) ?_
  intro p e s m below meth c ls C hr hlk hS hl
  have hl : lv_has ls 7 [(0, .ref (G.1 + 63)), (1, .int x1), (2, .int x2)] := hl
  obtain ⟨hx, hb, -⟩ := id C
  unfold Mod_stateOf at h
  refine lv_iconst (v := 1) hx hb dX11_stateOf_0 (by decide) ?_
  refine lv_istore_n (lv' := [(3, .int 1), (0, .ref (G.1 + 63)), (1, .int x1), (2, .int x2)]) hx hb dX11_stateOf_1 rfl hl (by decide) rfl (fun ls hl => ?_)
  refine lv_bipush (v := 8) hx hb dX11_stateOf_2 (by decide) ?_
  refine lv_iload_n hx hb dX11_stateOf_4 rfl (lv_at hl 2 rfl) ?_
  refine lv_imul hx hb dX11_stateOf_5 ?_
  obtain ⟨x4_1, e_2, h⟩ := olt h
  refine r_nI e_2 ?_
  refine lv_istore (lv' := [(4, .int x4_1), (3, .int 1), (0, .ref (G.1 + 63)), (1, .int x1), (2, .int x2)]) hx hb dX11_stateOf_6 hl (by decide) rfl (fun ls hl => ?_)
  obtain ⟨⟨k_37, x3_34, x4_35, M_36⟩, hq_38, h⟩ := ob h
  try dsimp only at h
  refine loopW (E := (E_Mod_stateOf_8 G p l e s m _ below meth c _ x1 x2)) (w_Mod_stateOf_B8 C x1 x2 F) F _ _ hq_38 ?_ _ _ _ hS (lv_sub hl [2, 3, 4, 1, 0] rfl)
  by_cases ek_39 : k_37 = 1
  · replace h := ifp ek_39 h
    subst ek_39
    intro H locs ls hS hl
    refine lv_iload_n hx hb dX11_stateOf_108 rfl (lv_at hl 0 rfl) ?_
    exact r_iret C hS hr hlk h dX11_stateOf_109
  · replace h := ifn ek_39 h
    cases h
set_option maxHeartbeats 4000000 in
set_option maxRecDepth 100000 in
theorem c_X11_byteOf (l : Launch) (G : Gl) (F : Nat) (x1 : Int32) (x2 : Int32) (M : zM)  (q : Int32 × zM) (h : Mod_byteOf F x1 x2 M = some q) : Met l yX11_byteOf (wsM yX11_byteOf cX11_byteOf 3 (some .int)) (rmM 0 0) (Pre G M [.ref (G.1 + 63), .int x1, .int x2]) (PoI G q) 0 0 (gA G) := by
  refine r_met (own := RX11) rfl (by decide) (Nat.le_of_ble_eq_true rfl) ?_
  intro p e s m below meth c ls C hr hlk hS hl
  have hl : lv_has ls 3 [(0, .ref (G.1 + 63)), (1, .int x1), (2, .int x2)] := hl
  obtain ⟨hx, hb, -⟩ := id C
  unfold Mod_byteOf at h
  refine lv_aload_n hx hb dX11_byteOf_0 rfl (lv_at hl 0 rfl) ?_
  refine r_gR C hS fl_X11_44 rfl rfl rfl dX11_byteOf_1 ?_
  refine lv_bipush (v := 8) hx hb dX11_byteOf_4 (by decide) ?_
  refine lv_iload_n hx hb dX11_byteOf_6 rfl (lv_at hl 1 rfl) ?_
  refine lv_imul hx hb dX11_byteOf_7 ?_
  refine lv_iload_n hx hb dX11_byteOf_8 rfl (lv_at hl 2 rfl) ?_
  refine lv_bipush (v := 8) hx hb dX11_byteOf_9 (by decide) ?_
  refine lv_idiv hx hb dX11_byteOf_11 (by decide) ?_
  refine lv_iadd hx hb dX11_byteOf_12 ?_
  obtain ⟨b_1, h⟩ := ift h
  refine r_lald C hS rfl rfl b_1 dX11_byteOf_13 ?_
  refine lv_bipush (v := 8) hx hb dX11_byteOf_14 (by decide) ?_
  refine lv_iload_n hx hb dX11_byteOf_16 rfl (lv_at hl 2 rfl) ?_
  refine lv_bipush (v := 8) hx hb dX11_byteOf_17 (by decide) ?_
  refine lv_irem hx hb dX11_byteOf_19 (by decide) ?_
  refine lv_imul hx hb dX11_byteOf_20 ?_
  refine lv_lshr (v := sr (M.2 75 ((8 * x1) + (x2 / 8)).toNatClampNeg) (8 * (x2 - x2 / 8 * 8))) hx hb dX11_byteOf_21 rfl ?_
  refine lv_ldc2 hx hb C.2.2.2.1 (C.2.2.2.2.1 _ tw_1041) dX11_byteOf_22 ?_
  refine lv_land hx hb dX11_byteOf_25 ?_
  refine lv_l2i (v := ((sr (M.2 75 ((8 * x1) + (x2 / 8)).toNatClampNeg) (8 * (x2 - x2 / 8 * 8))) &&& 255).toInt32) hx hb dX11_byteOf_26 rfl ?_
  exact r_iret C hS hr hlk h dX11_byteOf_27
def E_Mod_addBytes_63 (G : Gl) (p : Program) (l : Launch) (e : Env) (s : State) (m : MethodId) (args : Array Value) (below : List Frame) (meth : Method) (c : Code) (Q : State → Prop) (x1 : Int32) (x2 : Int32) (x3 : Int32) (x4 : Int32) : Nat → (Int32 × zM) → Prop := fun k (x5, M) => match k with
  | 0 => ∀ (H : Heap) (locs : List Loc) (ls : Array Slot), St G M s H locs → lv_has ls 6 [(0, .ref (G.1 + 63)), (1, .int x1), (2, .int x2), (3, .int x3), (4, .int x4), (5, .int x5)] → W p l e (rmM 1 22) s m args below meth c H locs 0 0 Q (F0 m 63 ls [])
  | 1 => ∀ (H : Heap) (locs : List Loc) (ls : Array Slot), St G M s H locs → lv_has ls 6 [] → W p l e (rmM 1 22) s m args below meth c H locs 0 0 Q (F0 m 127 ls [])
  | _ => True
set_option maxHeartbeats 4000000 in
set_option maxRecDepth 100000 in
theorem w_Mod_addBytes_J110 {G : Gl} {p : Program} {l : Launch} {e : Env} {s : State} {m : MethodId} {args : Array Value} {below : List Frame} {meth : Method} {c : Code} {Q : State → Prop} (C : Cx G cX11_addBytes 6 RX11 p s m args c) (x1 : Int32) (x2 : Int32) (x3 : Int32) (x4 : Int32) (F : Nat) (x5 : Int32) (y1 : Int32) (y2 : Int32) (M : zM)  (q : Nat × (Int32 × zM)) (h : Mod_addBytes_J110 F x1 x2 x3 x4 x5 y1 y2 M = some q) (hE : (E_Mod_addBytes_63 G p l e s m args below meth c Q x1 x2 x3 x4) q.1 q.2) (H : Heap) (locs : List Loc) (ls : Array Slot) (hS : St G M s H locs) (hl : lv_has ls 6 [(0, .ref (G.1 + 63)), (1, .int x1), (2, .int x2), (3, .int x3), (4, .int x4), (5, .int x5)]) : W p l e (rmM 1 22) s m args below meth c H locs 0 0 Q (F0 m 110 ls [.int y2, .int y1, .ref (G.1 + 89)]) := by
  obtain ⟨hx, hb, -⟩ := id C
  unfold Mod_addBytes_J110 at h
  obtain ⟨b_9, h⟩ := ift h
  obtain ⟨M_10, e_11, h⟩ := olt h
  refine r_iast C hS rfl rfl b_9 e_11 dX11_addBytes_110 (fun H locs hS => ?_)
  refine lv_aload_n hx hb dX11_addBytes_111 rfl (lv_at hl 0 rfl) ?_
  refine lv_dup hx hb dX11_addBytes_112 rfl ?_
  refine r_gI C hS fl_X11_219 rfl rfl dX11_addBytes_113 ?_
  refine lv_iconst (v := 1) hx hb dX11_addBytes_116 (by decide) ?_
  refine lv_iadd hx hb dX11_addBytes_117 ?_
  obtain ⟨M_12, e_13, h⟩ := olt h
  refine r_pI C hS fp_X11_219 rfl rfl e_13 dX11_addBytes_118 (fun H locs hS => ?_)
  obtain ⟨x5_14, e_15, h⟩ := olt h
  refine lv_iinc (v := x5_14) (lv' := [(5, .int x5_14), (0, .ref (G.1 + 63)), (1, .int x1), (2, .int x2), (3, .int x3), (4, .int x4)]) hx hb dX11_addBytes_121 hl (k := 5) rfl (by rw [e_15]; rfl) (by decide) rfl (fun ls hl => ?_)
  refine lv_goto (tgt := 63) hx hb dX11_addBytes_124 (by decide) ?_
  obtain rfl := Option.some.inj h
  exact hE _ _ _ hS (lv_sub hl [1, 2, 3, 4, 5, 0] rfl)
set_option maxHeartbeats 4000000 in
set_option maxRecDepth 100000 in
theorem w_Mod_addBytes_B63 {G : Gl} {p : Program} {l : Launch} {e : Env} {s : State} {m : MethodId} {args : Array Value} {below : List Frame} {meth : Method} {c : Code} {Q : State → Prop} (C : Cx G cX11_addBytes 6 RX11 p s m args c) (x1 : Int32) (x2 : Int32) (x3 : Int32) (x4 : Int32) (F : Nat) : ∀ (σ : (Int32 × zM)) (q : Nat × (Int32 × zM)), Mod_addBytes_B63 F x1 x2 x3 x4 σ = some q → (E_Mod_addBytes_63 G p l e s m args below meth c Q x1 x2 x3 x4) q.1 q.2 → (E_Mod_addBytes_63 G p l e s m args below meth c Q x1 x2 x3 x4) 0 σ := by
  intro (x5, M) q h hE H locs ls hS hl
  obtain ⟨hx, hb, -⟩ := id C
  unfold Mod_addBytes_B63 at h
  try dsimp only at h
  refine lv_iload hx hb dX11_addBytes_63 (lv_at hl 5 rfl) ?_
  refine lv_iload hx hb dX11_addBytes_65 (lv_at hl 4 rfl) ?_
  refine lv_icmp_ge (tgt := 127) hx hb dX11_addBytes_67 (by decide) (fun c_4 => ?_) (fun c_4 => ?_)
  · replace h := ifp c_4 h
    obtain rfl := Option.some.inj h
    exact hE _ _ _ hS (lv_sub hl [] rfl)
  · replace h := ifn c_4 h
    refine lv_aload_n hx hb dX11_addBytes_70 rfl (lv_at hl 0 rfl) ?_
    refine r_gR C hS fl_X11_91 rfl rfl rfl dX11_addBytes_71 ?_
    refine lv_aload_n hx hb dX11_addBytes_74 rfl (lv_at hl 0 rfl) ?_
    refine r_gI C hS fl_X11_219 rfl rfl dX11_addBytes_75 ?_
    refine lv_iload_n hx hb dX11_addBytes_78 rfl (lv_at hl 3 rfl) ?_
    refine lv_if_ge (tgt := 97) hx hb dX11_addBytes_79 (by decide) (fun c_5 => ?_) (fun c_5 => ?_)
    · replace h := ifp c_5 h
      refine lv_aload_n hx hb dX11_addBytes_97 rfl (lv_at hl 0 rfl) ?_
      refine lv_sipush (v := 1000) hx hb dX11_addBytes_98 (by decide) ?_
      refine lv_iload_n hx hb dX11_addBytes_101 rfl (lv_at hl 1 rfl) ?_
      refine lv_imul hx hb dX11_addBytes_102 ?_
      refine lv_iload_n hx hb dX11_addBytes_103 rfl (lv_at hl 3 rfl) ?_
      refine lv_iadd hx hb dX11_addBytes_104 ?_
      refine lv_iload hx hb dX11_addBytes_105 (lv_at hl 5 rfl) ?_
      obtain ⟨⟨r_6, M_7⟩, hq_8, h⟩ := ob h
      try dsimp only at h
      refine r_thenI hS (r_runV C hS hl.1 cv_X11_222 rfl (c_X11_byteOf l G F ((1000 * x1) + x3) x5 M  _ hq_8) ⟨by decide, by decide⟩ rfl rfl (Nat.le_of_ble_eq_true rfl) ⟨Nat.zero_le _, Nat.zero_le _⟩ dX11_addBytes_107) (fun H locs hS => ?_)
      exact w_Mod_addBytes_J110 C x1 x2 x3 x4 F x5 (M.1 63 33) r_6 M_7  q h hE _ _ _ hS (lv_sub hl [0, 1, 2, 3, 4, 5] rfl)
    · replace h := ifn c_5 h
      refine lv_aload_n hx hb dX11_addBytes_82 rfl (lv_at hl 0 rfl) ?_
      refine r_gR C hS fl_X11_38 rfl rfl rfl dX11_addBytes_83 ?_
      refine lv_bipush (v := 12) hx hb dX11_addBytes_86 (by decide) ?_
      refine lv_iload_n hx hb dX11_addBytes_88 rfl (lv_at hl 2 rfl) ?_
      refine lv_imul hx hb dX11_addBytes_89 ?_
      refine lv_iload hx hb dX11_addBytes_90 (lv_at hl 5 rfl) ?_
      refine lv_iadd hx hb dX11_addBytes_92 ?_
      obtain ⟨b_16, h⟩ := ift h
      refine r_iald C hS rfl rfl b_16 dX11_addBytes_93 ?_
      refine lv_goto (tgt := 110) hx hb dX11_addBytes_94 (by decide) ?_
      exact w_Mod_addBytes_J110 C x1 x2 x3 x4 F x5 (M.1 63 33) (M.1 73 ((12 * x2) + x5).toNatClampNeg) M  q h hE _ _ _ hS (lv_sub hl [0, 1, 2, 3, 4, 5] rfl)
set_option maxHeartbeats 4000000 in
set_option maxRecDepth 100000 in
theorem w_Mod_addBytes_J60 {G : Gl} {p : Program} {l : Launch} {e : Env} {s : State} {m : MethodId} {args : Array Value} {below : List Frame} {meth : Method} {c : Code} (C : Cx G cX11_addBytes 6 RX11 p s m args c) (hr : meth.sig.returnType = none) (hlk : meth.locks = false) (F : Nat) (x1 : Int32) (x2 : Int32) (x3 : Int32) (x4 : Int32) (M : zM)  (q : Unit × zM) (h : Mod_addBytes_J60 F x1 x2 x3 x4 M = some q) (H : Heap) (locs : List Loc) (ls : Array Slot) (hS : St G M s H locs) (hl : lv_has ls 6 [(0, .ref (G.1 + 63)), (1, .int x1), (2, .int x2), (3, .int x3), (4, .int x4)]) : W p l e (rmM 1 22) s m args below meth c H locs 0 0 (MQ below (PoV G q) args s 0 0 (gA G)) (F0 m 60 ls []) := by
  obtain ⟨hx, hb, -⟩ := id C
  unfold Mod_addBytes_J60 at h
  refine lv_iconst (v := 0) hx hb dX11_addBytes_60 (by decide) ?_
  refine lv_istore (lv' := [(5, .int 0), (0, .ref (G.1 + 63)), (1, .int x1), (2, .int x2), (3, .int x3), (4, .int x4)]) hx hb dX11_addBytes_61 hl (by decide) rfl (fun ls hl => ?_)
  obtain ⟨⟨k_19, x5_17, M_18⟩, hq_20, h⟩ := ob h
  try dsimp only at h
  refine loopW (E := (E_Mod_addBytes_63 G p l e s m _ below meth c _ x1 x2 x3 x4)) (w_Mod_addBytes_B63 C x1 x2 x3 x4 F) F _ _ hq_20 ?_ _ _ _ hS (lv_sub hl [1, 2, 3, 4, 5, 0] rfl)
  by_cases ek_21 : k_19 = 1
  · replace h := ifp ek_21 h
    subst ek_21
    intro H locs ls hS hl
    exact r_vret C hS hr hlk h dX11_addBytes_127
  · replace h := ifn ek_21 h
    cases h
set_option maxHeartbeats 4000000 in
set_option maxRecDepth 100000 in
theorem w_Mod_addBytes_J25 {G : Gl} {p : Program} {l : Launch} {e : Env} {s : State} {m : MethodId} {args : Array Value} {below : List Frame} {meth : Method} {c : Code} (C : Cx G cX11_addBytes 6 RX11 p s m args c) (hr : meth.sig.returnType = none) (hlk : meth.locks = false) (F : Nat) (x1 : Int32) (x2 : Int32) (x3 : Int32) (y0 : Int32) (M : zM)  (q : Unit × zM) (h : Mod_addBytes_J25 F x1 x2 x3 y0 M = some q) (H : Heap) (locs : List Loc) (ls : Array Slot) (hS : St G M s H locs) (hl : lv_has ls 6 [(0, .ref (G.1 + 63)), (1, .int x1), (2, .int x2), (3, .int x3)]) : W p l e (rmM 1 22) s m args below meth c H locs 0 0 (MQ below (PoV G q) args s 0 0 (gA G)) (F0 m 25 ls [.int y0]) := by
  obtain ⟨hx, hb, -⟩ := id C
  unfold Mod_addBytes_J25 at h
  refine lv_istore (lv' := [(4, .int y0), (0, .ref (G.1 + 63)), (1, .int x1), (2, .int x2), (3, .int x3)]) hx hb dX11_addBytes_25 hl (by decide) rfl (fun ls hl => ?_)
  refine lv_iload hx hb dX11_addBytes_27 (lv_at hl 0 rfl) ?_
  refine lv_if_le (tgt := 60) hx hb dX11_addBytes_29 (by decide) (fun c_3 => ?_) (fun c_3 => ?_)
  · replace h := ifp c_3 h
    exact w_Mod_addBytes_J60 C hr hlk F x1 x2 x3 y0 M  q h _ _ _ hS (lv_sub hl [1, 2, 3, 4, 0] rfl)
  · replace h := ifn c_3 h
    refine lv_aload_n hx hb dX11_addBytes_32 rfl (lv_at hl 1 rfl) ?_
    refine r_gI C hS fl_X11_219 rfl rfl dX11_addBytes_33 ?_
    refine lv_if_le (tgt := 60) hx hb dX11_addBytes_36 (by decide) (fun c_22 => ?_) (fun c_22 => ?_)
    · replace h := ifp c_22 h
      exact w_Mod_addBytes_J60 C hr hlk F x1 x2 x3 y0 M  q h _ _ _ hS (lv_sub hl [1, 2, 3, 4, 0] rfl)
    · replace h := ifn c_22 h
      refine lv_aload_n hx hb dX11_addBytes_39 rfl (lv_at hl 1 rfl) ?_
      refine r_gR C hS fl_X11_91 rfl rfl rfl dX11_addBytes_40 ?_
      refine lv_aload_n hx hb dX11_addBytes_43 rfl (lv_at hl 1 rfl) ?_
      refine r_gI C hS fl_X11_219 rfl rfl dX11_addBytes_44 ?_
      refine lv_bipush (v := 32) hx hb dX11_addBytes_47 (by decide) ?_
      obtain ⟨b_23, h⟩ := ift h
      obtain ⟨M_24, e_25, h⟩ := olt h
      refine r_iast C hS rfl rfl b_23 e_25 dX11_addBytes_49 (fun H locs hS => ?_)
      refine lv_aload_n hx hb dX11_addBytes_50 rfl (lv_at hl 1 rfl) ?_
      refine lv_dup hx hb dX11_addBytes_51 rfl ?_
      refine r_gI C hS fl_X11_219 rfl rfl dX11_addBytes_52 ?_
      refine lv_iconst (v := 1) hx hb dX11_addBytes_55 (by decide) ?_
      refine lv_iadd hx hb dX11_addBytes_56 ?_
      obtain ⟨M_26, e_27, h⟩ := olt h
      refine r_pI C hS fp_X11_219 rfl rfl e_27 dX11_addBytes_57 (fun H locs hS => ?_)
      exact w_Mod_addBytes_J60 C hr hlk F x1 x2 x3 y0 M_26  q h _ _ _ hS (lv_sub hl [1, 2, 3, 4, 0] rfl)
set_option maxHeartbeats 4000000 in
set_option maxRecDepth 100000 in
theorem c_X11_addBytes (l : Launch) (G : Gl) (F : Nat) (x1 : Int32) (x2 : Int32) (x3 : Int32) (M : zM)  (q : Unit × zM) (h : Mod_addBytes F x1 x2 x3 M = some q) : Met l yX11_addBytes (wsM yX11_addBytes cX11_addBytes 6 none) (rmM 1 22) (Pre G M [.ref (G.1 + 63), .int x1, .int x2, .int x3]) (PoV G q) 0 0 (gA G) := by
  refine r_met (own := RX11) rfl (by decide) (Nat.le_of_ble_eq_true rfl) ?_
  intro p e s m below meth c ls C hr hlk hS hl
  have hl : lv_has ls 6 [(0, .ref (G.1 + 63)), (1, .int x1), (2, .int x2), (3, .int x3)] := hl
  obtain ⟨hx, hb, -⟩ := id C
  unfold Mod_addBytes at h
  refine lv_iload_n hx hb dX11_addBytes_0 rfl (lv_at hl 3 rfl) ?_
  refine lv_if_ge (tgt := 13) hx hb dX11_addBytes_1 (by decide) (fun c_1 => ?_) (fun c_1 => ?_)
  · replace h := ifp c_1 h
    refine lv_aload_n hx hb dX11_addBytes_13 rfl (lv_at hl 0 rfl) ?_
    refine r_gR C hS fl_X11_41 rfl rfl rfl dX11_addBytes_14 ?_
    refine lv_sipush (v := 1000) hx hb dX11_addBytes_17 (by decide) ?_
    refine lv_iload_n hx hb dX11_addBytes_20 rfl (lv_at hl 1 rfl) ?_
    refine lv_imul hx hb dX11_addBytes_21 ?_
    refine lv_iload_n hx hb dX11_addBytes_22 rfl (lv_at hl 3 rfl) ?_
    refine lv_iadd hx hb dX11_addBytes_23 ?_
    obtain ⟨b_2, h⟩ := ift h
    refine r_iald C hS rfl rfl b_2 dX11_addBytes_24 ?_
    exact w_Mod_addBytes_J25 C hr hlk F x1 x2 x3 (M.1 74 ((1000 * x1) + x3).toNatClampNeg) M  q h _ _ _ hS (lv_sub hl [0, 1, 2, 3] rfl)
  · replace h := ifn c_1 h
    refine lv_aload_n hx hb dX11_addBytes_4 rfl (lv_at hl 0 rfl) ?_
    refine r_gR C hS fl_X11_35 rfl rfl rfl dX11_addBytes_5 ?_
    refine lv_iload_n hx hb dX11_addBytes_8 rfl (lv_at hl 2 rfl) ?_
    obtain ⟨b_28, h⟩ := ift h
    refine r_iald C hS rfl rfl b_28 dX11_addBytes_9 ?_
    refine lv_goto (tgt := 25) hx hb dX11_addBytes_10 (by decide) ?_
    exact w_Mod_addBytes_J25 C hr hlk F x1 x2 x3 (M.1 72 x2.toNatClampNeg) M  q h _ _ _ hS (lv_sub hl [0, 1, 2, 3] rfl)
def E_Mod_makeName_14 (G : Gl) (p : Program) (l : Launch) (e : Env) (s : State) (m : MethodId) (args : Array Value) (below : List Frame) (meth : Method) (c : Code) (Q : State → Prop) (x1 : Int32) (x2 : Int32) (x3 : Int32) : Nat → (Int32 × Int32 × zM) → Prop := fun k (x4, x5, M) => match k with
  | 0 => ∀ (H : Heap) (locs : List Loc) (ls : Array Slot), St G M s H locs → lv_has ls 8 [(0, .ref (G.1 + 63)), (1, .int x1), (2, .int x2), (3, .int x3), (4, .int x4), (5, .int x5)] → W p l e (rmM 2 47) s m args below meth c H locs 0 0 Q (F0 m 14 ls [])
  | 1 => ∀ (H : Heap) (locs : List Loc) (ls : Array Slot), St G M s H locs → lv_has ls 8 [(0, .ref (G.1 + 63)), (1, .int x1), (2, .int x2), (3, .int x3), (4, .int x4)] → W p l e (rmM 2 47) s m args below meth c H locs 0 0 Q (F0 m 138 ls [])
  | _ => True
set_option maxHeartbeats 4000000 in
set_option maxRecDepth 100000 in
theorem w_Mod_makeName_J121 {G : Gl} {p : Program} {l : Launch} {e : Env} {s : State} {m : MethodId} {args : Array Value} {below : List Frame} {meth : Method} {c : Code} {Q : State → Prop} (C : Cx G cX11_makeName 8 RX11 p s m args c) (x1 : Int32) (x2 : Int32) (x3 : Int32) (F : Nat) (x5 : Int32) (x6 : Int32) (y0 : Int32) (M : zM)  (q : Nat × (Int32 × Int32 × zM)) (h : Mod_makeName_J121 F x1 x2 x3 x5 x6 y0 M = some q) (hE : (E_Mod_makeName_14 G p l e s m args below meth c Q x1 x2 x3) q.1 q.2) (H : Heap) (locs : List Loc) (ls : Array Slot) (hS : St G M s H locs) (hl : lv_has ls 8 [(0, .ref (G.1 + 63)), (1, .int x1), (2, .int x2), (3, .int x3), (5, .int x5), (6, .int x6)]) : W p l e (rmM 2 47) s m args below meth c H locs 0 0 Q (F0 m 121 ls [.int y0]) := by
  obtain ⟨hx, hb, -⟩ := id C
  unfold Mod_makeName_J121 at h
  refine lv_istore (lv' := [(4, .int y0), (0, .ref (G.1 + 63)), (1, .int x1), (2, .int x2), (3, .int x3), (5, .int x5), (6, .int x6)]) hx hb dX11_makeName_121 hl (by decide) rfl (fun ls hl => ?_)
  refine lv_aload_n hx hb dX11_makeName_123 rfl (lv_at hl 1 rfl) ?_
  refine lv_iload_n hx hb dX11_makeName_124 rfl (lv_at hl 2 rfl) ?_
  refine lv_iload hx hb dX11_makeName_125 (lv_at hl 5 rfl) ?_
  refine lv_iload hx hb dX11_makeName_127 (lv_at hl 6 rfl) ?_
  obtain ⟨⟨_r_13, M_14⟩, hq_15, h⟩ := ob h
  try dsimp only at h
  refine r_thenV hS (r_runV C hS hl.1 cv_X11_225 rfl (c_X11_addBytes l G F x1 x5 x6 M  _ hq_15) ⟨by decide, by decide⟩ rfl rfl (Nat.le_of_ble_eq_true rfl) ⟨Nat.zero_le _, Nat.zero_le _⟩ dX11_makeName_129) (fun H locs hS => ?_)
  obtain ⟨x5_16, e_17, h⟩ := olt h
  refine lv_iinc (v := x5_16) (lv' := [(5, .int x5_16), (4, .int y0), (0, .ref (G.1 + 63)), (1, .int x1), (2, .int x2), (3, .int x3), (6, .int x6)]) hx hb dX11_makeName_132 hl (k := 5) rfl (by rw [e_17]; rfl) (by decide) rfl (fun ls hl => ?_)
  refine lv_goto (tgt := 14) hx hb dX11_makeName_135 (by decide) ?_
  obtain rfl := Option.some.inj h
  exact hE _ _ _ hS (lv_sub hl [2, 3, 4, 5, 1, 0] rfl)
set_option maxHeartbeats 4000000 in
set_option maxRecDepth 100000 in
theorem w_Mod_makeName_J105 {G : Gl} {p : Program} {l : Launch} {e : Env} {s : State} {m : MethodId} {args : Array Value} {below : List Frame} {meth : Method} {c : Code} {Q : State → Prop} (C : Cx G cX11_makeName 8 RX11 p s m args c) (x1 : Int32) (x2 : Int32) (x3 : Int32) (F : Nat) (x4 : Int32) (x5 : Int32) (x6 : Int32) (y0 : Int32) (M : zM)  (q : Nat × (Int32 × Int32 × zM)) (h : Mod_makeName_J105 F x1 x2 x3 x4 x5 x6 y0 M = some q) (hE : (E_Mod_makeName_14 G p l e s m args below meth c Q x1 x2 x3) q.1 q.2) (H : Heap) (locs : List Loc) (ls : Array Slot) (hS : St G M s H locs) (hl : lv_has ls 8 [(0, .ref (G.1 + 63)), (1, .int x1), (2, .int x2), (3, .int x3), (4, .int x4), (5, .int x5), (6, .int x6)]) : W p l e (rmM 2 47) s m args below meth c H locs 0 0 Q (F0 m 105 ls [.int y0]) := by
  obtain ⟨hx, hb, -⟩ := id C
  unfold Mod_makeName_J105 at h
  refine lv_istore (lv' := [(7, .int y0), (0, .ref (G.1 + 63)), (1, .int x1), (2, .int x2), (3, .int x3), (4, .int x4), (5, .int x5), (6, .int x6)]) hx hb dX11_makeName_105 hl (by decide) rfl (fun ls hl => ?_)
  refine lv_iload hx hb dX11_makeName_107 (lv_at hl 0 rfl) ?_
  refine lv_iload hx hb dX11_makeName_109 (lv_at hl 5 rfl) ?_
  refine lv_icmp_le (tgt := 119) hx hb dX11_makeName_111 (by decide) (fun c_12 => ?_) (fun c_12 => ?_)
  · replace h := ifp c_12 h
    refine lv_iload hx hb dX11_makeName_119 (lv_at hl 5 rfl) ?_
    exact w_Mod_makeName_J121 C x1 x2 x3 F x5 x6 x4 M  q h hE _ _ _ hS (lv_sub hl [1, 2, 3, 4, 6, 7] rfl)
  · replace h := ifn c_12 h
    refine lv_iload hx hb dX11_makeName_114 (lv_at hl 0 rfl) ?_
    refine lv_goto (tgt := 121) hx hb dX11_makeName_116 (by decide) ?_
    exact w_Mod_makeName_J121 C x1 x2 x3 F x5 x6 y0 M  q h hE _ _ _ hS (lv_sub hl [1, 2, 3, 4, 6, 7] rfl)
set_option maxHeartbeats 4000000 in
set_option maxRecDepth 100000 in
theorem w_Mod_makeName_J81 {G : Gl} {p : Program} {l : Launch} {e : Env} {s : State} {m : MethodId} {args : Array Value} {below : List Frame} {meth : Method} {c : Code} {Q : State → Prop} (C : Cx G cX11_makeName 8 RX11 p s m args c) (x1 : Int32) (x2 : Int32) (x3 : Int32) (F : Nat) (x4 : Int32) (x5 : Int32) (y0 : Int32) (M : zM)  (q : Nat × (Int32 × Int32 × zM)) (h : Mod_makeName_J81 F x1 x2 x3 x4 x5 y0 M = some q) (hE : (E_Mod_makeName_14 G p l e s m args below meth c Q x1 x2 x3) q.1 q.2) (H : Heap) (locs : List Loc) (ls : Array Slot) (hS : St G M s H locs) (hl : lv_has ls 8 [(0, .ref (G.1 + 63)), (1, .int x1), (2, .int x2), (3, .int x3), (4, .int x4), (5, .int x5)]) : W p l e (rmM 2 47) s m args below meth c H locs 0 0 Q (F0 m 81 ls [.int y0]) := by
  obtain ⟨hx, hb, -⟩ := id C
  unfold Mod_makeName_J81 at h
  refine lv_istore (lv' := [(6, .int y0), (0, .ref (G.1 + 63)), (1, .int x1), (2, .int x2), (3, .int x3), (4, .int x4), (5, .int x5)]) hx hb dX11_makeName_81 hl (by decide) rfl (fun ls hl => ?_)
  refine lv_iload hx hb dX11_makeName_83 (lv_at hl 0 rfl) ?_
  refine lv_if_ge (tgt := 92) hx hb dX11_makeName_85 (by decide) (fun c_10 => ?_) (fun c_10 => ?_)
  · replace h := ifp c_10 h
    refine lv_aload_n hx hb dX11_makeName_92 rfl (lv_at hl 1 rfl) ?_
    refine r_gR C hS fl_X11_48 rfl rfl rfl dX11_makeName_93 ?_
    refine lv_sipush (v := 1000) hx hb dX11_makeName_96 (by decide) ?_
    refine lv_iload_n hx hb dX11_makeName_99 rfl (lv_at hl 2 rfl) ?_
    refine lv_imul hx hb dX11_makeName_100 ?_
    refine lv_iload hx hb dX11_makeName_101 (lv_at hl 0 rfl) ?_
    refine lv_iadd hx hb dX11_makeName_103 ?_
    obtain ⟨b_11, h⟩ := ift h
    refine r_iald C hS rfl rfl b_11 dX11_makeName_104 ?_
    exact w_Mod_makeName_J105 C x1 x2 x3 F x4 x5 y0 (M.1 76 ((1000 * x1) + y0).toNatClampNeg) M  q h hE _ _ _ hS (lv_sub hl [1, 2, 3, 4, 5, 6, 0] rfl)
  · replace h := ifn c_10 h
    refine lv_iconst (v := 0) hx hb dX11_makeName_88 (by decide) ?_
    refine lv_goto (tgt := 105) hx hb dX11_makeName_89 (by decide) ?_
    exact w_Mod_makeName_J105 C x1 x2 x3 F x4 x5 y0 0 M  q h hE _ _ _ hS (lv_sub hl [1, 2, 3, 4, 5, 6, 0] rfl)
set_option maxHeartbeats 4000000 in
set_option maxRecDepth 100000 in
theorem w_Mod_makeName_J69 {G : Gl} {p : Program} {l : Launch} {e : Env} {s : State} {m : MethodId} {args : Array Value} {below : List Frame} {meth : Method} {c : Code} {Q : State → Prop} (C : Cx G cX11_makeName 8 RX11 p s m args c) (x1 : Int32) (x2 : Int32) (x3 : Int32) (F : Nat) (x4 : Int32) (x5 : Int32) (M : zM)  (q : Nat × (Int32 × Int32 × zM)) (h : Mod_makeName_J69 F x1 x2 x3 x4 x5 M = some q) (hE : (E_Mod_makeName_14 G p l e s m args below meth c Q x1 x2 x3) q.1 q.2) (H : Heap) (locs : List Loc) (ls : Array Slot) (hS : St G M s H locs) (hl : lv_has ls 8 [(0, .ref (G.1 + 63)), (1, .int x1), (2, .int x2), (3, .int x3), (4, .int x4), (5, .int x5)]) : W p l e (rmM 2 47) s m args below meth c H locs 0 0 Q (F0 m 69 ls []) := by
  obtain ⟨hx, hb, -⟩ := id C
  unfold Mod_makeName_J69 at h
  refine lv_iconst (v := (-1)) hx hb dX11_makeName_69 (by decide) ?_
  refine lv_goto (tgt := 81) hx hb dX11_makeName_70 (by decide) ?_
  exact w_Mod_makeName_J81 C x1 x2 x3 F x4 x5 (-1) M  q h hE _ _ _ hS (lv_sub hl [0, 1, 2, 3, 4, 5] rfl)
set_option maxHeartbeats 4000000 in
set_option maxRecDepth 100000 in
theorem w_Mod_makeName_J50 {G : Gl} {p : Program} {l : Launch} {e : Env} {s : State} {m : MethodId} {args : Array Value} {below : List Frame} {meth : Method} {c : Code} {Q : State → Prop} (C : Cx G cX11_makeName 8 RX11 p s m args c) (x1 : Int32) (x2 : Int32) (x3 : Int32) (F : Nat) (x4 : Int32) (x5 : Int32) (M : zM)  (q : Nat × (Int32 × Int32 × zM)) (h : Mod_makeName_J50 F x1 x2 x3 x4 x5 M = some q) (hE : (E_Mod_makeName_14 G p l e s m args below meth c Q x1 x2 x3) q.1 q.2) (H : Heap) (locs : List Loc) (ls : Array Slot) (hS : St G M s H locs) (hl : lv_has ls 8 [(0, .ref (G.1 + 63)), (1, .int x1), (2, .int x2), (3, .int x3), (4, .int x4), (5, .int x5)]) : W p l e (rmM 2 47) s m args below meth c H locs 0 0 Q (F0 m 50 ls []) := by
  obtain ⟨hx, hb, -⟩ := id C
  unfold Mod_makeName_J50 at h
  refine lv_aload_n hx hb dX11_makeName_50 rfl (lv_at hl 0 rfl) ?_
  refine r_gR C hS fl_X11_13 rfl rfl rfl dX11_makeName_51 ?_
  refine lv_iload_n hx hb dX11_makeName_54 rfl (lv_at hl 2 rfl) ?_
  obtain ⟨b_8, h⟩ := ift h
  refine r_zald C hS rfl rfl b_8 dX11_makeName_55 ?_
  refine lv_if_ne (tgt := 69) hx hb dX11_makeName_56 (by decide) (fun c_9 => ?_) (fun c_9 => ?_)
  · replace h := ifn c_9 h
    exact w_Mod_makeName_J69 C x1 x2 x3 F x4 x5 M  q h hE _ _ _ hS (lv_sub hl [0, 1, 2, 3, 4, 5] rfl)
  · replace h := ifp c_9 h
    refine lv_aload_n hx hb dX11_makeName_59 rfl (lv_at hl 0 rfl) ?_
    refine r_gR C hS fl_X11_29 rfl rfl rfl dX11_makeName_60 ?_
    refine lv_iload hx hb dX11_makeName_63 (lv_at hl 5 rfl) ?_
    obtain ⟨b_18, h⟩ := ift h
    refine r_iald C hS rfl rfl b_18 dX11_makeName_65 ?_
    refine lv_if_ne (tgt := 73) hx hb dX11_makeName_66 (by decide) (fun c_19 => ?_) (fun c_19 => ?_)
    · replace h := ifn c_19 h
      refine lv_aload_n hx hb dX11_makeName_73 rfl (lv_at hl 0 rfl) ?_
      refine lv_iload hx hb dX11_makeName_74 (lv_at hl 5 rfl) ?_
      refine lv_iload_n hx hb dX11_makeName_76 rfl (lv_at hl 2 rfl) ?_
      refine lv_iload_n hx hb dX11_makeName_77 rfl (lv_at hl 3 rfl) ?_
      obtain ⟨⟨r_20, M_21⟩, hq_22, h⟩ := ob h
      try dsimp only at h
      refine r_thenI hS (r_runV C hS hl.1 cv_X11_212 rfl (c_X11_numberOf l G F x5 x2 x3 M  _ hq_22) ⟨by decide, by decide⟩ rfl rfl (Nat.le_of_ble_eq_true rfl) ⟨Nat.zero_le _, Nat.zero_le _⟩ dX11_makeName_78) (fun H locs hS => ?_)
      exact w_Mod_makeName_J81 C x1 x2 x3 F x4 x5 r_20 M_21  q h hE _ _ _ hS (lv_sub hl [0, 1, 2, 3, 4, 5] rfl)
    · replace h := ifp c_19 h
      exact w_Mod_makeName_J69 C x1 x2 x3 F x4 x5 M  q h hE _ _ _ hS (lv_sub hl [0, 1, 2, 3, 4, 5] rfl)
set_option maxHeartbeats 4000000 in
set_option maxRecDepth 100000 in
theorem w_Mod_makeName_B14 {G : Gl} {p : Program} {l : Launch} {e : Env} {s : State} {m : MethodId} {args : Array Value} {below : List Frame} {meth : Method} {c : Code} {Q : State → Prop} (C : Cx G cX11_makeName 8 RX11 p s m args c) (x1 : Int32) (x2 : Int32) (x3 : Int32) (F : Nat) : ∀ (σ : (Int32 × Int32 × zM)) (q : Nat × (Int32 × Int32 × zM)), Mod_makeName_B14 F x1 x2 x3 σ = some q → (E_Mod_makeName_14 G p l e s m args below meth c Q x1 x2 x3) q.1 q.2 → (E_Mod_makeName_14 G p l e s m args below meth c Q x1 x2 x3) 0 σ := by
  intro (x4, x5, M) q h hE H locs ls hS hl
  obtain ⟨hx, hb, -⟩ := id C
  unfold Mod_makeName_B14 at h
  try dsimp only at h
  refine lv_iload hx hb dX11_makeName_14 (lv_at hl 5 rfl) ?_
  refine lv_bipush (v := 8) hx hb dX11_makeName_16 (by decide) ?_
  refine lv_iload_n hx hb dX11_makeName_18 rfl (lv_at hl 2 rfl) ?_
  refine lv_imul hx hb dX11_makeName_19 ?_
  refine lv_aload_n hx hb dX11_makeName_20 rfl (lv_at hl 0 rfl) ?_
  refine r_gR C hS fl_X11_26 rfl rfl rfl dX11_makeName_21 ?_
  refine lv_iload_n hx hb dX11_makeName_24 rfl (lv_at hl 2 rfl) ?_
  obtain ⟨b_5, h⟩ := ift h
  refine r_iald C hS rfl rfl b_5 dX11_makeName_25 ?_
  refine lv_iadd hx hb dX11_makeName_26 ?_
  refine lv_icmp_ge (tgt := 138) hx hb dX11_makeName_27 (by decide) (fun c_6 => ?_) (fun c_6 => ?_)
  · replace h := ifp c_6 h
    obtain rfl := Option.some.inj h
    exact hE _ _ _ hS (lv_sub hl [0, 1, 2, 3, 4] rfl)
  · replace h := ifn c_6 h
    refine lv_aload_n hx hb dX11_makeName_30 rfl (lv_at hl 0 rfl) ?_
    refine r_gR C hS fl_X11_13 rfl rfl rfl dX11_makeName_31 ?_
    refine lv_iload_n hx hb dX11_makeName_34 rfl (lv_at hl 2 rfl) ?_
    refine r_zald C hS rfl rfl b_5 dX11_makeName_35 ?_
    refine lv_if_ne (tgt := 50) hx hb dX11_makeName_36 (by decide) (fun c_7 => ?_) (fun c_7 => ?_)
    · replace h := ifn c_7 h
      exact w_Mod_makeName_J50 C x1 x2 x3 F x4 x5 M  q h hE _ _ _ hS (lv_sub hl [0, 1, 2, 3, 4, 5] rfl)
    · replace h := ifp c_7 h
      refine lv_aload_n hx hb dX11_makeName_39 rfl (lv_at hl 0 rfl) ?_
      refine lv_iload hx hb dX11_makeName_40 (lv_at hl 5 rfl) ?_
      refine lv_iload_n hx hb dX11_makeName_42 rfl (lv_at hl 2 rfl) ?_
      refine lv_iload_n hx hb dX11_makeName_43 rfl (lv_at hl 3 rfl) ?_
      obtain ⟨⟨r_23, M_24⟩, hq_25, h⟩ := ob h
      try dsimp only at h
      refine r_thenI hS (r_runV C hS hl.1 cv_X11_208 rfl (c_X11_isThere l G F x5 x2 x3 M  _ hq_25) ⟨by decide, by decide⟩ rfl rfl (Nat.le_of_ble_eq_true rfl) ⟨Nat.zero_le _, Nat.zero_le _⟩ dX11_makeName_44) (fun H locs hS => ?_)
      refine lv_if_eq (tgt := 132) hx hb dX11_makeName_47 (by decide) (fun c_26 => ?_) (fun c_26 => ?_)
      · replace h := ifp c_26 h
        obtain ⟨x5_27, e_28, h⟩ := olt h
        refine lv_iinc (v := x5_27) (lv' := [(5, .int x5_27), (0, .ref (G.1 + 63)), (1, .int x1), (2, .int x2), (3, .int x3), (4, .int x4)]) hx hb dX11_makeName_132 hl (k := 5) rfl (by rw [e_28]; rfl) (by decide) rfl (fun ls hl => ?_)
        refine lv_goto (tgt := 14) hx hb dX11_makeName_135 (by decide) ?_
        obtain rfl := Option.some.inj h
        exact hE _ _ _ hS (lv_sub hl [1, 2, 3, 4, 5, 0] rfl)
      · replace h := ifn c_26 h
        exact w_Mod_makeName_J50 C x1 x2 x3 F x4 x5 M_24  q h hE _ _ _ hS (lv_sub hl [0, 1, 2, 3, 4, 5] rfl)
def E_Mod_makeName_172 (G : Gl) (p : Program) (l : Launch) (e : Env) (s : State) (m : MethodId) (args : Array Value) (below : List Frame) (meth : Method) (c : Code) (Q : State → Prop) (x1 : Int32) (x2 : Int32) (x4 : Int32) (x5 : Int32) : Nat → (Int32 × zM) → Prop := fun k (x6, M) => match k with
  | 0 => ∀ (H : Heap) (locs : List Loc) (ls : Array Slot), St G M s H locs → lv_has ls 8 [(0, .ref (G.1 + 63)), (1, .int x1), (2, .int x2), (4, .int x4), (5, .int x5), (6, .int x6)] → W p l e (rmM 2 47) s m args below meth c H locs 0 0 Q (F0 m 172 ls [])
  | 1 => ∀ (H : Heap) (locs : List Loc) (ls : Array Slot), St G M s H locs → lv_has ls 8 [(0, .ref (G.1 + 63)), (1, .int x1), (2, .int x2), (4, .int x4), (5, .int x5)] → W p l e (rmM 2 47) s m args below meth c H locs 0 0 Q (F0 m 199 ls [])
  | _ => True
set_option maxHeartbeats 4000000 in
set_option maxRecDepth 100000 in
theorem w_Mod_makeName_B172 {G : Gl} {p : Program} {l : Launch} {e : Env} {s : State} {m : MethodId} {args : Array Value} {below : List Frame} {meth : Method} {c : Code} {Q : State → Prop} (C : Cx G cX11_makeName 8 RX11 p s m args c) (x1 : Int32) (x2 : Int32) (x4 : Int32) (x5 : Int32) (F : Nat) : ∀ (σ : (Int32 × zM)) (q : Nat × (Int32 × zM)), Mod_makeName_B172 F x1 x2 x4 x5 σ = some q → (E_Mod_makeName_172 G p l e s m args below meth c Q x1 x2 x4 x5) q.1 q.2 → (E_Mod_makeName_172 G p l e s m args below meth c Q x1 x2 x4 x5) 0 σ := by
  intro (x6, M) q h hE H locs ls hS hl
  obtain ⟨hx, hb, -⟩ := id C
  unfold Mod_makeName_B172 at h
  try dsimp only at h
  refine lv_iload hx hb dX11_makeName_172 (lv_at hl 5 rfl) ?_
  refine lv_bipush (v := 8) hx hb dX11_makeName_174 (by decide) ?_
  refine lv_iload hx hb dX11_makeName_176 (lv_at hl 4 rfl) ?_
  refine lv_imul hx hb dX11_makeName_178 ?_
  refine lv_bipush (v := 8) hx hb dX11_makeName_179 (by decide) ?_
  refine lv_iadd hx hb dX11_makeName_181 ?_
  refine lv_icmp_ge (tgt := 199) hx hb dX11_makeName_182 (by decide) (fun c_40 => ?_) (fun c_40 => ?_)
  · replace h := ifp c_40 h
    obtain rfl := Option.some.inj h
    exact hE _ _ _ hS (lv_sub hl [0, 1, 2, 3, 4] rfl)
  · replace h := ifn c_40 h
    refine lv_aload_n hx hb dX11_makeName_185 rfl (lv_at hl 0 rfl) ?_
    refine r_gR C hS fl_X11_44 rfl rfl rfl dX11_makeName_186 ?_
    refine lv_iload hx hb dX11_makeName_189 (lv_at hl 5 rfl) ?_
    refine lv_lconst (v := 0) hx hb dX11_makeName_191 (by decide) ?_
    obtain ⟨b_41, h⟩ := ift h
    obtain ⟨M_42, e_43, h⟩ := olt h
    refine r_last C hS rfl rfl b_41 e_43 dX11_makeName_192 (fun H locs hS => ?_)
    obtain ⟨x6_44, e_45, h⟩ := olt h
    refine lv_iinc (v := x6_44) (lv' := [(6, .int x6_44), (0, .ref (G.1 + 63)), (1, .int x1), (2, .int x2), (4, .int x4), (5, .int x5)]) hx hb dX11_makeName_193 hl (k := 5) rfl (by rw [e_45]; rfl) (by decide) rfl (fun ls hl => ?_)
    refine lv_goto (tgt := 172) hx hb dX11_makeName_196 (by decide) ?_
    obtain rfl := Option.some.inj h
    exact hE _ _ _ hS (lv_sub hl [1, 2, 3, 4, 5, 0] rfl)
def E_Mod_makeName_205 (G : Gl) (p : Program) (l : Launch) (e : Env) (s : State) (m : MethodId) (args : Array Value) (below : List Frame) (meth : Method) (c : Code) (Q : State → Prop) (x1 : Int32) (x2 : Int32) (x4 : Int32) (x5 : Int32) : Nat → (Int32 × Int32 × zM) → Prop := fun k (x6, x7, M) => match k with
  | 0 => ∀ (H : Heap) (locs : List Loc) (ls : Array Slot), St G M s H locs → lv_has ls 8 [(0, .ref (G.1 + 63)), (1, .int x1), (2, .int x2), (4, .int x4), (5, .int x5), (6, .int x6), (7, .int x7)] → W p l e (rmM 2 47) s m args below meth c H locs 0 0 Q (F0 m 205 ls [])
  | 1 => ∀ (H : Heap) (locs : List Loc) (ls : Array Slot), St G M s H locs → lv_has ls 8 [(0, .ref (G.1 + 63)), (1, .int x1), (2, .int x2), (4, .int x4), (5, .int x5), (6, .int x6)] → W p l e (rmM 2 47) s m args below meth c H locs 0 0 Q (F0 m 278 ls [])
  | _ => True
set_option maxHeartbeats 4000000 in
set_option maxRecDepth 100000 in
theorem w_Mod_makeName_B205 {G : Gl} {p : Program} {l : Launch} {e : Env} {s : State} {m : MethodId} {args : Array Value} {below : List Frame} {meth : Method} {c : Code} {Q : State → Prop} (C : Cx G cX11_makeName 8 RX11 p s m args c) (x1 : Int32) (x2 : Int32) (x4 : Int32) (x5 : Int32) (F : Nat) : ∀ (σ : (Int32 × Int32 × zM)) (q : Nat × (Int32 × Int32 × zM)), Mod_makeName_B205 F x1 x2 x4 x5 σ = some q → (E_Mod_makeName_205 G p l e s m args below meth c Q x1 x2 x4 x5) q.1 q.2 → (E_Mod_makeName_205 G p l e s m args below meth c Q x1 x2 x4 x5) 0 σ := by
  intro (x6, x7, M) q h hE H locs ls hS hl
  obtain ⟨hx, hb, -⟩ := id C
  unfold Mod_makeName_B205 at h
  try dsimp only at h
  refine lv_iload hx hb dX11_makeName_205 (lv_at hl 6 rfl) ?_
  refine lv_aload_n hx hb dX11_makeName_207 rfl (lv_at hl 0 rfl) ?_
  refine r_gI C hS fl_X11_219 rfl rfl dX11_makeName_208 ?_
  refine lv_icmp_ge (tgt := 278) hx hb dX11_makeName_211 (by decide) (fun c_50 => ?_) (fun c_50 => ?_)
  · replace h := ifp c_50 h
    obtain rfl := Option.some.inj h
    exact hE _ _ _ hS (lv_sub hl [0, 1, 2, 3, 4, 5] rfl)
  · replace h := ifn c_50 h
    refine lv_aload_n hx hb dX11_makeName_214 rfl (lv_at hl 0 rfl) ?_
    refine r_gR C hS fl_X11_44 rfl rfl rfl dX11_makeName_215 ?_
    refine lv_bipush (v := 8) hx hb dX11_makeName_218 (by decide) ?_
    refine lv_iload hx hb dX11_makeName_220 (lv_at hl 4 rfl) ?_
    refine lv_imul hx hb dX11_makeName_222 ?_
    refine lv_iload hx hb dX11_makeName_223 (lv_at hl 6 rfl) ?_
    refine lv_bipush (v := 8) hx hb dX11_makeName_225 (by decide) ?_
    refine lv_idiv hx hb dX11_makeName_227 (by decide) ?_
    refine lv_iadd hx hb dX11_makeName_228 ?_
    obtain ⟨d_51, e_52, h⟩ := olt h
    refine r_nI e_52 ?_
    refine lv_dup2_11 hx hb dX11_makeName_229 rfl rfl ?_
    obtain ⟨b_53, h⟩ := ift h
    refine r_lald C hS rfl rfl b_53 dX11_makeName_230 ?_
    refine lv_aload_n hx hb dX11_makeName_231 rfl (lv_at hl 0 rfl) ?_
    refine r_gR C hS fl_X11_91 rfl rfl rfl dX11_makeName_232 ?_
    refine lv_iload hx hb dX11_makeName_235 (lv_at hl 6 rfl) ?_
    obtain ⟨b_54, h⟩ := ift h
    refine r_iald C hS rfl rfl b_54 dX11_makeName_237 ?_
    refine lv_i2l (v := (M.1 89 x7.toNatClampNeg).toInt64) hx hb dX11_makeName_238 rfl ?_
    refine lv_bipush (v := 8) hx hb dX11_makeName_239 (by decide) ?_
    refine lv_iload hx hb dX11_makeName_241 (lv_at hl 6 rfl) ?_
    refine lv_bipush (v := 8) hx hb dX11_makeName_243 (by decide) ?_
    refine lv_irem hx hb dX11_makeName_245 (by decide) ?_
    refine lv_imul hx hb dX11_makeName_246 ?_
    refine lv_lshl (v := sl ((M.1 89 x7.toNatClampNeg).toInt64) (8 * (x7 - x7 / 8 * 8))) hx hb dX11_makeName_247 rfl ?_
    refine lv_lor hx hb dX11_makeName_248 ?_
    obtain ⟨M_55, e_56, h⟩ := olt h
    refine r_last C hS rfl rfl b_53 e_56 dX11_makeName_249 (fun H locs hS => ?_)
    refine lv_iload hx hb dX11_makeName_250 (lv_at hl 5 rfl) ?_
    refine lv_aload_n hx hb dX11_makeName_252 rfl (lv_at hl 0 rfl) ?_
    refine r_gR C hS fl_X11_91 rfl rfl rfl dX11_makeName_253 ?_
    refine lv_iload hx hb dX11_makeName_256 (lv_at hl 6 rfl) ?_
    refine r_iald C hS rfl rfl b_54 dX11_makeName_258 ?_
    refine lv_bipush (v := 32) hx hb dX11_makeName_259 (by decide) ?_
    refine lv_icmp_ne (tgt := 268) hx hb dX11_makeName_261 (by decide) (fun c_57 => ?_) (fun c_57 => ?_)
    · replace h := ifn c_57 h
      refine lv_iconst (v := 1) hx hb dX11_makeName_268 (by decide) ?_
      refine lv_iadd hx hb dX11_makeName_269 ?_
      obtain ⟨x6_58, e_59, h⟩ := olt h
      refine r_nI e_59 ?_
      refine lv_istore (lv' := [(6, .int x6_58), (0, .ref (G.1 + 63)), (1, .int x1), (2, .int x2), (4, .int x4), (5, .int x5), (7, .int x7)]) hx hb dX11_makeName_270 hl (by decide) rfl (fun ls hl => ?_)
      obtain ⟨x7_60, e_61, h⟩ := olt h
      refine lv_iinc (v := x7_60) (lv' := [(7, .int x7_60), (6, .int x6_58), (0, .ref (G.1 + 63)), (1, .int x1), (2, .int x2), (4, .int x4), (5, .int x5)]) hx hb dX11_makeName_272 hl (k := 6) rfl (by rw [e_61]; rfl) (by decide) rfl (fun ls hl => ?_)
      refine lv_goto (tgt := 205) hx hb dX11_makeName_275 (by decide) ?_
      obtain rfl := Option.some.inj h
      exact hE _ _ _ hS (lv_sub hl [2, 3, 4, 5, 6, 1, 0] rfl)
    · replace h := ifp c_57 h
      refine lv_iconst (v := 0) hx hb dX11_makeName_264 (by decide) ?_
      refine lv_goto (tgt := 269) hx hb dX11_makeName_265 (by decide) ?_
      refine lv_iadd hx hb dX11_makeName_269 ?_
      obtain ⟨x6_62, e_63, h⟩ := olt h
      refine r_nI e_63 ?_
      refine lv_istore (lv' := [(6, .int x6_62), (0, .ref (G.1 + 63)), (1, .int x1), (2, .int x2), (4, .int x4), (5, .int x5), (7, .int x7)]) hx hb dX11_makeName_270 hl (by decide) rfl (fun ls hl => ?_)
      obtain ⟨x7_64, e_65, h⟩ := olt h
      refine lv_iinc (v := x7_64) (lv' := [(7, .int x7_64), (6, .int x6_62), (0, .ref (G.1 + 63)), (1, .int x1), (2, .int x2), (4, .int x4), (5, .int x5)]) hx hb dX11_makeName_272 hl (k := 6) rfl (by rw [e_65]; rfl) (by decide) rfl (fun ls hl => ?_)
      refine lv_goto (tgt := 205) hx hb dX11_makeName_275 (by decide) ?_
      obtain rfl := Option.some.inj h
      exact hE _ _ _ hS (lv_sub hl [2, 3, 4, 5, 6, 1, 0] rfl)
set_option maxHeartbeats 4000000 in
set_option maxRecDepth 100000 in
theorem c_X11_makeName (l : Launch) (G : Gl) (F : Nat) (x1 : Int32) (x2 : Int32) (x3 : Int32) (M : zM)  (q : Int32 × zM) (h : Mod_makeName F x1 x2 x3 M = some q) : Met l yX11_makeName (wsM yX11_makeName cX11_makeName 8 (some .int)) (rmM 2 47) (Pre G M [.ref (G.1 + 63), .int x1, .int x2, .int x3]) (PoI G q) 0 0 (gA G) := by
  refine r_met (own := RX11) rfl (by decide) (Nat.le_of_ble_eq_true rfl) ?_
  intro p e s m below meth c ls C hr hlk hS hl
  have hl : lv_has ls 8 [(0, .ref (G.1 + 63)), (1, .int x1), (2, .int x2), (3, .int x3)] := hl
  obtain ⟨hx, hb, -⟩ := id C
  unfold Mod_makeName at h
  refine lv_iconst (v := 0) hx hb dX11_makeName_0 (by decide) ?_
  refine lv_istore (lv' := [(4, .int 0), (0, .ref (G.1 + 63)), (1, .int x1), (2, .int x2), (3, .int x3)]) hx hb dX11_makeName_1 hl (by decide) rfl (fun ls hl => ?_)
  refine lv_aload_n hx hb dX11_makeName_3 rfl (lv_at hl 1 rfl) ?_
  refine lv_iconst (v := 0) hx hb dX11_makeName_4 (by decide) ?_
  obtain ⟨M_1, e_2, h⟩ := olt h
  refine r_pI C hS fp_X11_219 rfl rfl e_2 dX11_makeName_5 (fun H locs hS => ?_)
  refine lv_bipush (v := 8) hx hb dX11_makeName_8 (by decide) ?_
  refine lv_iload_n hx hb dX11_makeName_10 rfl (lv_at hl 3 rfl) ?_
  refine lv_imul hx hb dX11_makeName_11 ?_
  obtain ⟨x5_3, e_4, h⟩ := olt h
  refine r_nI e_4 ?_
  refine lv_istore (lv' := [(5, .int x5_3), (4, .int 0), (0, .ref (G.1 + 63)), (1, .int x1), (2, .int x2), (3, .int x3)]) hx hb dX11_makeName_12 hl (by decide) rfl (fun ls hl => ?_)
  obtain ⟨⟨k_32, x4_29, x5_30, M_31⟩, hq_33, h⟩ := ob h
  try dsimp only at h
  refine loopW (E := (E_Mod_makeName_14 G p l e s m _ below meth c _ x1 x2 x3)) (w_Mod_makeName_B14 C x1 x2 x3 F) F _ _ hq_33 ?_ _ _ _ hS (lv_sub hl [2, 3, 4, 5, 1, 0] rfl)
  by_cases ek_82 : k_32 = 1
  · replace h := ifp ek_82 h
    subst ek_82
    intro H locs ls hS hl
    refine lv_sipush (v := 1000) hx hb dX11_makeName_138 (by decide) ?_
    refine lv_iload_n hx hb dX11_makeName_141 rfl (lv_at hl 1 rfl) ?_
    refine lv_imul hx hb dX11_makeName_142 ?_
    refine lv_iload_n hx hb dX11_makeName_143 rfl (lv_at hl 3 rfl) ?_
    refine lv_iadd hx hb dX11_makeName_144 ?_
    obtain ⟨x5_34, e_35, h⟩ := olt h
    refine r_nI e_35 ?_
    refine lv_istore (lv' := [(5, .int x5_34), (0, .ref (G.1 + 63)), (1, .int x1), (2, .int x2), (3, .int x3), (4, .int x4_29)]) hx hb dX11_makeName_145 hl (by decide) rfl (fun ls hl => ?_)
    refine lv_aload_n hx hb dX11_makeName_147 rfl (lv_at hl 1 rfl) ?_
    refine r_gI C hS fl_X11_219 rfl rfl dX11_makeName_148 ?_
    refine lv_bipush (v := 60) hx hb dX11_makeName_151 (by decide) ?_
    refine lv_icmp_gt (tgt := 163) hx hb dX11_makeName_153 (by decide) (fun c_36 => ?_) (fun c_36 => ?_)
    · replace h := ifp c_36 h
      refine lv_iconst (v := 2) hx hb dX11_makeName_163 (by decide) ?_
      exact r_iret C hS hr hlk h dX11_makeName_164
    · replace h := ifn c_36 h
      refine lv_iload hx hb dX11_makeName_156 (lv_at hl 5 rfl) ?_
      refine lv_bipush (v := 8) hx hb dX11_makeName_158 (by decide) ?_
      refine lv_icmp_lt (tgt := 165) hx hb dX11_makeName_160 (by decide) (fun c_37 => ?_) (fun c_37 => ?_)
      · replace h := ifp c_37 h
        refine lv_bipush (v := 8) hx hb dX11_makeName_165 (by decide) ?_
        refine lv_iload hx hb dX11_makeName_167 (lv_at hl 0 rfl) ?_
        refine lv_imul hx hb dX11_makeName_169 ?_
        obtain ⟨x6_38, e_39, h⟩ := olt h
        refine r_nI e_39 ?_
        refine lv_istore (lv' := [(6, .int x6_38), (5, .int x5_34), (0, .ref (G.1 + 63)), (1, .int x1), (2, .int x2), (3, .int x3), (4, .int x4_29)]) hx hb dX11_makeName_170 hl (by decide) rfl (fun ls hl => ?_)
        obtain ⟨⟨k_48, x6_46, M_47⟩, hq_49, h⟩ := ob h
        try dsimp only at h
        refine loopW (E := (E_Mod_makeName_172 G p l e s m _ below meth c _ x1 x2 x4_29 x5_34)) (w_Mod_makeName_B172 C x1 x2 x4_29 x5_34 F) F _ _ hq_49 ?_ _ _ _ hS (lv_sub hl [2, 3, 4, 6, 1, 0] rfl)
        by_cases ek_81 : k_48 = 1
        · replace h := ifp ek_81 h
          subst ek_81
          intro H locs ls hS hl
          refine lv_iconst (v := 0) hx hb dX11_makeName_199 (by decide) ?_
          refine lv_istore (lv' := [(6, .int 0), (0, .ref (G.1 + 63)), (1, .int x1), (2, .int x2), (4, .int x4_29), (5, .int x5_34)]) hx hb dX11_makeName_200 hl (by decide) rfl (fun ls hl => ?_)
          refine lv_iconst (v := 0) hx hb dX11_makeName_202 (by decide) ?_
          refine lv_istore (lv' := [(7, .int 0), (6, .int 0), (0, .ref (G.1 + 63)), (1, .int x1), (2, .int x2), (4, .int x4_29), (5, .int x5_34)]) hx hb dX11_makeName_203 hl (by decide) rfl (fun ls hl => ?_)
          obtain ⟨⟨k_69, x6_66, x7_67, M_68⟩, hq_70, h⟩ := ob h
          try dsimp only at h
          refine loopW (E := (E_Mod_makeName_205 G p l e s m _ below meth c _ x1 x2 x4_29 x5_34)) (w_Mod_makeName_B205 C x1 x2 x4_29 x5_34 F) F _ _ hq_70 ?_ _ _ _ hS (lv_sub hl [2, 3, 4, 5, 6, 1, 0] rfl)
          by_cases ek_80 : k_69 = 1
          · replace h := ifp ek_80 h
            subst ek_80
            intro H locs ls hS hl
            refine lv_aload_n hx hb dX11_makeName_278 rfl (lv_at hl 0 rfl) ?_
            refine r_gR C hS fl_X11_41 rfl rfl rfl dX11_makeName_279 ?_
            refine lv_iload hx hb dX11_makeName_282 (lv_at hl 4 rfl) ?_
            refine lv_aload_n hx hb dX11_makeName_284 rfl (lv_at hl 0 rfl) ?_
            refine r_gI C hS fl_X11_219 rfl rfl dX11_makeName_285 ?_
            obtain ⟨b_71, h⟩ := ift h
            obtain ⟨M_72, e_73, h⟩ := olt h
            refine r_iast C hS rfl rfl b_71 e_73 dX11_makeName_288 (fun H locs hS => ?_)
            refine lv_aload_n hx hb dX11_makeName_289 rfl (lv_at hl 0 rfl) ?_
            refine r_gR C hS fl_X11_48 rfl rfl rfl dX11_makeName_290 ?_
            refine lv_iload hx hb dX11_makeName_293 (lv_at hl 4 rfl) ?_
            refine lv_iload hx hb dX11_makeName_295 (lv_at hl 3 rfl) ?_
            refine lv_iconst (v := 1) hx hb dX11_makeName_297 (by decide) ?_
            refine lv_iadd hx hb dX11_makeName_298 ?_
            obtain ⟨M_74, e_75, h⟩ := olt h
            refine r_iast C hS rfl rfl b_71 e_75 dX11_makeName_299 (fun H locs hS => ?_)
            refine lv_aload_n hx hb dX11_makeName_300 rfl (lv_at hl 0 rfl) ?_
            refine r_gR C hS fl_X11_51 rfl rfl rfl dX11_makeName_301 ?_
            refine lv_iload hx hb dX11_makeName_304 (lv_at hl 4 rfl) ?_
            refine lv_iload_n hx hb dX11_makeName_306 rfl (lv_at hl 2 rfl) ?_
            refine lv_bipush (v := 12) hx hb dX11_makeName_307 (by decide) ?_
            refine lv_iload_n hx hb dX11_makeName_309 rfl (lv_at hl 1 rfl) ?_
            refine lv_imul hx hb dX11_makeName_310 ?_
            refine lv_isub hx hb dX11_makeName_311 ?_
            obtain ⟨M_76, e_77, h⟩ := olt h
            refine r_iast C hS rfl rfl b_71 e_77 dX11_makeName_312 (fun H locs hS => ?_)
            refine lv_aload_n hx hb dX11_makeName_313 rfl (lv_at hl 0 rfl) ?_
            refine r_gR C hS fl_X11_54 rfl rfl rfl dX11_makeName_314 ?_
            refine lv_iload hx hb dX11_makeName_317 (lv_at hl 4 rfl) ?_
            refine lv_iload hx hb dX11_makeName_319 (lv_at hl 5 rfl) ?_
            obtain ⟨M_78, e_79, h⟩ := olt h
            refine r_iast C hS rfl rfl b_71 e_79 dX11_makeName_321 (fun H locs hS => ?_)
            refine lv_iconst (v := 1) hx hb dX11_makeName_322 (by decide) ?_
            exact r_iret C hS hr hlk h dX11_makeName_323
          · replace h := ifn ek_80 h
            cases h
        · replace h := ifn ek_81 h
          cases h
      · replace h := ifn c_37 h
        refine lv_iconst (v := 2) hx hb dX11_makeName_163 (by decide) ?_
        exact r_iret C hS hr hlk h dX11_makeName_164
  · replace h := ifn ek_82 h
    cases h
def E_Mod_findNames_2 (G : Gl) (p : Program) (l : Launch) (e : Env) (s : State) (m : MethodId) (args : Array Value) (below : List Frame) (meth : Method) (c : Code) (Q : State → Prop) (x1 : Int32) : Nat → (Int32 × zM) → Prop := fun k (x2, M) => match k with
  | 0 => ∀ (H : Heap) (locs : List Loc) (ls : Array Slot), St G M s H locs → lv_has ls 6 [(0, .ref (G.1 + 63)), (1, .int x1), (2, .int x2)] → W p l e (rmM 3 74) s m args below meth c H locs 0 0 Q (F0 m 2 ls [])
  | 1 => ∀ (H : Heap) (locs : List Loc) (ls : Array Slot), St G M s H locs → lv_has ls 6 [(0, .ref (G.1 + 63)), (1, .int x1)] → W p l e (rmM 3 74) s m args below meth c H locs 0 0 Q (F0 m 61 ls [])
  | _ => True
set_option maxHeartbeats 4000000 in
set_option maxRecDepth 100000 in
theorem w_Mod_findNames_B2 {G : Gl} {p : Program} {l : Launch} {e : Env} {s : State} {m : MethodId} {args : Array Value} {below : List Frame} {meth : Method} {c : Code} {Q : State → Prop} (C : Cx G cX11_findNames 6 RX11 p s m args c) (x1 : Int32) (F : Nat) : ∀ (σ : (Int32 × zM)) (q : Nat × (Int32 × zM)), Mod_findNames_B2 F x1 σ = some q → (E_Mod_findNames_2 G p l e s m args below meth c Q x1) q.1 q.2 → (E_Mod_findNames_2 G p l e s m args below meth c Q x1) 0 σ := by
  intro (x2, M) q h hE H locs ls hS hl
  obtain ⟨hx, hb, -⟩ := id C
  unfold Mod_findNames_B2 at h
  try dsimp only at h
  refine lv_iload_n hx hb dX11_findNames_2 rfl (lv_at hl 2 rfl) ?_
  refine lv_sipush (v := 1000) hx hb dX11_findNames_3 (by decide) ?_
  refine lv_icmp_ge (tgt := 61) hx hb dX11_findNames_6 (by decide) (fun c_1 => ?_) (fun c_1 => ?_)
  · replace h := ifp c_1 h
    obtain rfl := Option.some.inj h
    exact hE _ _ _ hS (lv_sub hl [0, 1] rfl)
  · replace h := ifn c_1 h
    refine lv_aload_n hx hb dX11_findNames_9 rfl (lv_at hl 0 rfl) ?_
    refine r_gR C hS fl_X11_94 rfl rfl rfl dX11_findNames_10 ?_
    refine lv_iload_n hx hb dX11_findNames_13 rfl (lv_at hl 2 rfl) ?_
    refine lv_iconst (v := 0) hx hb dX11_findNames_14 (by decide) ?_
    obtain ⟨b_2, h⟩ := ift h
    obtain ⟨M_3, e_4, h⟩ := olt h
    refine r_iast C hS rfl rfl b_2 e_4 dX11_findNames_15 (fun H locs hS => ?_)
    refine lv_aload_n hx hb dX11_findNames_16 rfl (lv_at hl 0 rfl) ?_
    refine r_gR C hS fl_X11_41 rfl rfl rfl dX11_findNames_17 ?_
    refine lv_sipush (v := 1000) hx hb dX11_findNames_20 (by decide) ?_
    refine lv_iload_n hx hb dX11_findNames_23 rfl (lv_at hl 1 rfl) ?_
    refine lv_imul hx hb dX11_findNames_24 ?_
    refine lv_iload_n hx hb dX11_findNames_25 rfl (lv_at hl 2 rfl) ?_
    refine lv_iadd hx hb dX11_findNames_26 ?_
    refine lv_iconst (v := (-1)) hx hb dX11_findNames_27 (by decide) ?_
    obtain ⟨b_5, h⟩ := ift h
    obtain ⟨M_6, e_7, h⟩ := olt h
    refine r_iast C hS rfl rfl b_5 e_7 dX11_findNames_28 (fun H locs hS => ?_)
    refine lv_aload_n hx hb dX11_findNames_29 rfl (lv_at hl 0 rfl) ?_
    refine r_gR C hS fl_X11_48 rfl rfl rfl dX11_findNames_30 ?_
    refine lv_sipush (v := 1000) hx hb dX11_findNames_33 (by decide) ?_
    refine lv_iload_n hx hb dX11_findNames_36 rfl (lv_at hl 1 rfl) ?_
    refine lv_imul hx hb dX11_findNames_37 ?_
    refine lv_iload_n hx hb dX11_findNames_38 rfl (lv_at hl 2 rfl) ?_
    refine lv_iadd hx hb dX11_findNames_39 ?_
    refine lv_iconst (v := (-1)) hx hb dX11_findNames_40 (by decide) ?_
    obtain ⟨M_8, e_9, h⟩ := olt h
    refine r_iast C hS rfl rfl b_5 e_9 dX11_findNames_41 (fun H locs hS => ?_)
    refine lv_aload_n hx hb dX11_findNames_42 rfl (lv_at hl 0 rfl) ?_
    refine r_gR C hS fl_X11_51 rfl rfl rfl dX11_findNames_43 ?_
    refine lv_sipush (v := 1000) hx hb dX11_findNames_46 (by decide) ?_
    refine lv_iload_n hx hb dX11_findNames_49 rfl (lv_at hl 1 rfl) ?_
    refine lv_imul hx hb dX11_findNames_50 ?_
    refine lv_iload_n hx hb dX11_findNames_51 rfl (lv_at hl 2 rfl) ?_
    refine lv_iadd hx hb dX11_findNames_52 ?_
    refine lv_iconst (v := (-1)) hx hb dX11_findNames_53 (by decide) ?_
    obtain ⟨M_10, e_11, h⟩ := olt h
    refine r_iast C hS rfl rfl b_5 e_11 dX11_findNames_54 (fun H locs hS => ?_)
    obtain ⟨x2_12, e_13, h⟩ := olt h
    refine lv_iinc (v := x2_12) (lv' := [(2, .int x2_12), (0, .ref (G.1 + 63)), (1, .int x1)]) hx hb dX11_findNames_55 hl (k := 2) rfl (by rw [e_13]; rfl) (by decide) rfl (fun ls hl => ?_)
    refine lv_goto (tgt := 2) hx hb dX11_findNames_58 (by decide) ?_
    obtain rfl := Option.some.inj h
    exact hE _ _ _ hS (lv_sub hl [1, 2, 0] rfl)
def E_Mod_findNames_63 (G : Gl) (p : Program) (l : Launch) (e : Env) (s : State) (m : MethodId) (args : Array Value) (below : List Frame) (meth : Method) (c : Code) (Q : State → Prop) (x1 : Int32) : Nat → (Int32 × zM) → Prop := fun k (x2, M) => match k with
  | 0 => ∀ (H : Heap) (locs : List Loc) (ls : Array Slot), St G M s H locs → lv_has ls 6 [(0, .ref (G.1 + 63)), (1, .int x1), (2, .int x2)] → W p l e (rmM 3 74) s m args below meth c H locs 0 0 Q (F0 m 63 ls [])
  | 1 => ∀ (H : Heap) (locs : List Loc) (ls : Array Slot), St G M s H locs → lv_has ls 6 [(0, .ref (G.1 + 63))] → W p l e (rmM 3 74) s m args below meth c H locs 0 0 Q (F0 m 180 ls [])
  | _ => True
def E_Mod_findNames_71 (G : Gl) (p : Program) (l : Launch) (e : Env) (s : State) (m : MethodId) (args : Array Value) (below : List Frame) (meth : Method) (c : Code) (Q : State → Prop) (x1 : Int32) : Nat → (Int32 × Int32 × zM) → Prop := fun k (x2, x3, M) => match k with
  | 0 => ∀ (H : Heap) (locs : List Loc) (ls : Array Slot), St G M s H locs → lv_has ls 6 [(0, .ref (G.1 + 63)), (1, .int x1), (2, .int x2), (3, .int x3)] → W p l e (rmM 3 74) s m args below meth c H locs 0 0 Q (F0 m 71 ls [])
  | 1 => ∀ (H : Heap) (locs : List Loc) (ls : Array Slot), St G M s H locs → lv_has ls 6 [(0, .ref (G.1 + 63)), (1, .int x1), (2, .int x2)] → W p l e (rmM 3 74) s m args below meth c H locs 0 0 Q (F0 m 177 ls [])
  | _ => True
set_option maxHeartbeats 4000000 in
set_option maxRecDepth 100000 in
theorem w_Mod_findNames_J151 {G : Gl} {p : Program} {l : Launch} {e : Env} {s : State} {m : MethodId} {args : Array Value} {below : List Frame} {meth : Method} {c : Code} {Q : State → Prop} (C : Cx G cX11_findNames 6 RX11 p s m args c) (x1 : Int32) (F : Nat) (x2 : Int32) (x3 : Int32) (y1 : Int32) (y2 : Int32) (M : zM)  (q : Nat × (Int32 × Int32 × zM)) (h : Mod_findNames_J151 F x1 x2 x3 y1 y2 M = some q) (hE : (E_Mod_findNames_71 G p l e s m args below meth c Q x1) q.1 q.2) (H : Heap) (locs : List Loc) (ls : Array Slot) (hS : St G M s H locs) (hl : lv_has ls 6 [(0, .ref (G.1 + 63)), (1, .int x1), (2, .int x2), (3, .int x3)]) : W p l e (rmM 3 74) s m args below meth c H locs 0 0 Q (F0 m 151 ls [.int y2, .int y1, .ref (G.1 + 90)]) := by
  obtain ⟨hx, hb, -⟩ := id C
  unfold Mod_findNames_J151 at h
  obtain ⟨b_34, h⟩ := ift h
  obtain ⟨M_35, e_36, h⟩ := olt h
  refine r_iast C hS rfl rfl b_34 e_36 dX11_findNames_151 (fun H locs hS => ?_)
  refine lv_iload_n hx hb dX11_findNames_152 rfl (lv_at hl 2 rfl) ?_
  refine lv_if_ne (tgt := 165) hx hb dX11_findNames_153 (by decide) (fun c_37 => ?_) (fun c_37 => ?_)
  · replace h := ifn c_37 h
    refine lv_iconst (v := 1) hx hb dX11_findNames_165 (by decide) ?_
    refine lv_goto (tgt := 170) hx hb dX11_findNames_166 (by decide) ?_
    refine lv_istore_n (lv' := [(2, .int 1), (0, .ref (G.1 + 63)), (1, .int x1), (3, .int x3)]) hx hb dX11_findNames_170 rfl hl (by decide) rfl (fun ls hl => ?_)
    obtain ⟨x3_38, e_39, h⟩ := olt h
    refine lv_iinc (v := x3_38) (lv' := [(3, .int x3_38), (2, .int 1), (0, .ref (G.1 + 63)), (1, .int x1)]) hx hb dX11_findNames_171 hl (k := 3) rfl (by rw [e_39]; rfl) (by decide) rfl (fun ls hl => ?_)
    refine lv_goto (tgt := 71) hx hb dX11_findNames_174 (by decide) ?_
    obtain rfl := Option.some.inj h
    exact hE _ _ _ hS (lv_sub hl [2, 3, 1, 0] rfl)
  · replace h := ifp c_37 h
    refine lv_aload_n hx hb dX11_findNames_156 rfl (lv_at hl 0 rfl) ?_
    refine r_gR C hS fl_X11_94 rfl rfl rfl dX11_findNames_157 ?_
    refine lv_iload_n hx hb dX11_findNames_160 rfl (lv_at hl 3 rfl) ?_
    obtain ⟨b_40, h⟩ := ift h
    refine r_iald C hS rfl rfl b_40 dX11_findNames_161 ?_
    refine lv_if_le (tgt := 169) hx hb dX11_findNames_162 (by decide) (fun c_41 => ?_) (fun c_41 => ?_)
    · replace h := ifp c_41 h
      refine lv_iconst (v := 0) hx hb dX11_findNames_169 (by decide) ?_
      refine lv_istore_n (lv' := [(2, .int 0), (0, .ref (G.1 + 63)), (1, .int x1), (3, .int x3)]) hx hb dX11_findNames_170 rfl hl (by decide) rfl (fun ls hl => ?_)
      obtain ⟨x3_42, e_43, h⟩ := olt h
      refine lv_iinc (v := x3_42) (lv' := [(3, .int x3_42), (2, .int 0), (0, .ref (G.1 + 63)), (1, .int x1)]) hx hb dX11_findNames_171 hl (k := 3) rfl (by rw [e_43]; rfl) (by decide) rfl (fun ls hl => ?_)
      refine lv_goto (tgt := 71) hx hb dX11_findNames_174 (by decide) ?_
      obtain rfl := Option.some.inj h
      exact hE _ _ _ hS (lv_sub hl [2, 3, 1, 0] rfl)
    · replace h := ifn c_41 h
      refine lv_iconst (v := 1) hx hb dX11_findNames_165 (by decide) ?_
      refine lv_goto (tgt := 170) hx hb dX11_findNames_166 (by decide) ?_
      refine lv_istore_n (lv' := [(2, .int 1), (0, .ref (G.1 + 63)), (1, .int x1), (3, .int x3)]) hx hb dX11_findNames_170 rfl hl (by decide) rfl (fun ls hl => ?_)
      obtain ⟨x3_44, e_45, h⟩ := olt h
      refine lv_iinc (v := x3_44) (lv' := [(3, .int x3_44), (2, .int 1), (0, .ref (G.1 + 63)), (1, .int x1)]) hx hb dX11_findNames_171 hl (k := 3) rfl (by rw [e_45]; rfl) (by decide) rfl (fun ls hl => ?_)
      refine lv_goto (tgt := 71) hx hb dX11_findNames_174 (by decide) ?_
      obtain rfl := Option.some.inj h
      exact hE _ _ _ hS (lv_sub hl [2, 3, 1, 0] rfl)
set_option maxHeartbeats 4000000 in
set_option maxRecDepth 100000 in
theorem w_Mod_findNames_J125 {G : Gl} {p : Program} {l : Launch} {e : Env} {s : State} {m : MethodId} {args : Array Value} {below : List Frame} {meth : Method} {c : Code} {Q : State → Prop} (C : Cx G cX11_findNames 6 RX11 p s m args c) (x1 : Int32) (F : Nat) (x2 : Int32) (x3 : Int32) (x4 : Int32) (y0 : Int32) (M : zM)  (q : Nat × (Int32 × Int32 × zM)) (h : Mod_findNames_J125 F x1 x2 x3 x4 y0 M = some q) (hE : (E_Mod_findNames_71 G p l e s m args below meth c Q x1) q.1 q.2) (H : Heap) (locs : List Loc) (ls : Array Slot) (hS : St G M s H locs) (hl : lv_has ls 6 [(0, .ref (G.1 + 63)), (1, .int x1), (2, .int x2), (3, .int x3), (4, .int x4)]) : W p l e (rmM 3 74) s m args below meth c H locs 0 0 Q (F0 m 125 ls [.int y0]) := by
  obtain ⟨hx, hb, -⟩ := id C
  unfold Mod_findNames_J125 at h
  refine lv_istore (lv' := [(5, .int y0), (0, .ref (G.1 + 63)), (1, .int x1), (2, .int x2), (3, .int x3), (4, .int x4)]) hx hb dX11_findNames_125 hl (by decide) rfl (fun ls hl => ?_)
  refine lv_aload_n hx hb dX11_findNames_127 rfl (lv_at hl 1 rfl) ?_
  refine r_gR C hS fl_X11_94 rfl rfl rfl dX11_findNames_128 ?_
  refine lv_iload_n hx hb dX11_findNames_131 rfl (lv_at hl 4 rfl) ?_
  refine lv_iload hx hb dX11_findNames_132 (lv_at hl 0 rfl) ?_
  refine lv_iconst (v := 1) hx hb dX11_findNames_134 (by decide) ?_
  refine lv_icmp_ne (tgt := 149) hx hb dX11_findNames_135 (by decide) (fun c_33 => ?_) (fun c_33 => ?_)
  · replace h := ifn c_33 h
    refine lv_iload hx hb dX11_findNames_149 (lv_at hl 0 rfl) ?_
    exact w_Mod_findNames_J151 C x1 F x2 x3 x3 y0 M  q h hE _ _ _ hS (lv_sub hl [1, 2, 3, 4] rfl)
  · replace h := ifp c_33 h
    refine lv_aload_n hx hb dX11_findNames_138 rfl (lv_at hl 1 rfl) ?_
    refine lv_iload_n hx hb dX11_findNames_139 rfl (lv_at hl 2 rfl) ?_
    refine lv_iload hx hb dX11_findNames_140 (lv_at hl 5 rfl) ?_
    refine lv_iload_n hx hb dX11_findNames_142 rfl (lv_at hl 4 rfl) ?_
    obtain ⟨⟨r_46, M_47⟩, hq_48, h⟩ := ob h
    try dsimp only at h
    refine r_thenI hS (r_runV C hS hl.1 cv_X11_235 rfl (c_X11_makeName l G F x1 x4 x3 M  _ hq_48) ⟨by decide, by decide⟩ rfl rfl (Nat.le_of_ble_eq_true rfl) ⟨Nat.zero_le _, Nat.zero_le _⟩ dX11_findNames_143) (fun H locs hS => ?_)
    refine lv_goto (tgt := 151) hx hb dX11_findNames_146 (by decide) ?_
    exact w_Mod_findNames_J151 C x1 F x2 x3 x3 r_46 M_47  q h hE _ _ _ hS (lv_sub hl [1, 2, 3, 4] rfl)
set_option maxHeartbeats 4000000 in
set_option maxRecDepth 100000 in
theorem w_Mod_findNames_B71 {G : Gl} {p : Program} {l : Launch} {e : Env} {s : State} {m : MethodId} {args : Array Value} {below : List Frame} {meth : Method} {c : Code} {Q : State → Prop} (C : Cx G cX11_findNames 6 RX11 p s m args c) (x1 : Int32) (F : Nat) : ∀ (σ : (Int32 × Int32 × zM)) (q : Nat × (Int32 × Int32 × zM)), Mod_findNames_B71 F x1 σ = some q → (E_Mod_findNames_71 G p l e s m args below meth c Q x1) q.1 q.2 → (E_Mod_findNames_71 G p l e s m args below meth c Q x1) 0 σ := by
  intro (x2, x3, M) q h hE H locs ls hS hl
  obtain ⟨hx, hb, -⟩ := id C
  unfold Mod_findNames_B71 at h
  try dsimp only at h
  refine lv_iload_n hx hb dX11_findNames_71 rfl (lv_at hl 3 rfl) ?_
  refine lv_sipush (v := 1000) hx hb dX11_findNames_72 (by decide) ?_
  refine lv_icmp_ge (tgt := 177) hx hb dX11_findNames_75 (by decide) (fun c_19 => ?_) (fun c_19 => ?_)
  · replace h := ifp c_19 h
    obtain rfl := Option.some.inj h
    exact hE _ _ _ hS (lv_sub hl [0, 1, 2] rfl)
  · replace h := ifn c_19 h
    refine lv_aload_n hx hb dX11_findNames_78 rfl (lv_at hl 0 rfl) ?_
    refine r_gR C hS fl_X11_94 rfl rfl rfl dX11_findNames_79 ?_
    refine lv_iload_n hx hb dX11_findNames_82 rfl (lv_at hl 3 rfl) ?_
    obtain ⟨b_20, h⟩ := ift h
    refine r_iald C hS rfl rfl b_20 dX11_findNames_83 ?_
    refine lv_if_ne (tgt := 171) hx hb dX11_findNames_84 (by decide) (fun c_21 => ?_) (fun c_21 => ?_)
    · replace h := ifn c_21 h
      obtain ⟨x3_22, e_23, h⟩ := olt h
      refine lv_iinc (v := x3_22) (lv' := [(3, .int x3_22), (0, .ref (G.1 + 63)), (1, .int x1), (2, .int x2)]) hx hb dX11_findNames_171 hl (k := 3) rfl (by rw [e_23]; rfl) (by decide) rfl (fun ls hl => ?_)
      refine lv_goto (tgt := 71) hx hb dX11_findNames_174 (by decide) ?_
      obtain rfl := Option.some.inj h
      exact hE _ _ _ hS (lv_sub hl [1, 2, 3, 0] rfl)
    · replace h := ifp c_21 h
      refine lv_aload_n hx hb dX11_findNames_87 rfl (lv_at hl 0 rfl) ?_
      refine lv_iload_n hx hb dX11_findNames_88 rfl (lv_at hl 1 rfl) ?_
      refine lv_iload_n hx hb dX11_findNames_89 rfl (lv_at hl 3 rfl) ?_
      obtain ⟨⟨r_24, M_25⟩, hq_26, h⟩ := ob h
      try dsimp only at h
      refine r_thenI hS (r_runV C hS hl.1 cv_X11_229 rfl (c_X11_clauseFor l G F x1 x3 M  _ hq_26) ⟨by decide, by decide⟩ rfl rfl (Nat.le_of_ble_eq_true rfl) ⟨Nat.zero_le _, Nat.zero_le _⟩ dX11_findNames_90) (fun H locs hS => ?_)
      refine lv_istore (lv' := [(4, .int r_24), (0, .ref (G.1 + 63)), (1, .int x1), (2, .int x2), (3, .int x3)]) hx hb dX11_findNames_93 hl (by decide) rfl (fun ls hl => ?_)
      refine lv_iload hx hb dX11_findNames_95 (lv_at hl 0 rfl) ?_
      refine lv_if_ge (tgt := 104) hx hb dX11_findNames_97 (by decide) (fun c_27 => ?_) (fun c_27 => ?_)
      · replace h := ifp c_27 h
        refine lv_aload_n hx hb dX11_findNames_104 rfl (lv_at hl 1 rfl) ?_
        refine r_gR C hS fl_X11_13 rfl rfl rfl dX11_findNames_105 ?_
        refine lv_iload hx hb dX11_findNames_108 (lv_at hl 0 rfl) ?_
        obtain ⟨b_28, h⟩ := ift h
        refine r_zald C hS rfl rfl b_28 dX11_findNames_110 ?_
        refine lv_if_eq (tgt := 118) hx hb dX11_findNames_111 (by decide) (fun c_29 => ?_) (fun c_29 => ?_)
        · replace h := ifp c_29 h
          refine lv_aload_n hx hb dX11_findNames_118 rfl (lv_at hl 1 rfl) ?_
          refine lv_iload hx hb dX11_findNames_119 (lv_at hl 0 rfl) ?_
          refine lv_iload_n hx hb dX11_findNames_121 rfl (lv_at hl 4 rfl) ?_
          obtain ⟨⟨r_30, M_31⟩, hq_32, h⟩ := ob h
          try dsimp only at h
          refine r_thenI hS (r_runV C hS hl.1 cv_X11_232 rfl (c_X11_stateOf l G F r_24 x3 M_25  _ hq_32) ⟨by decide, by decide⟩ rfl rfl (Nat.le_of_ble_eq_true rfl) ⟨Nat.zero_le _, Nat.zero_le _⟩ dX11_findNames_122) (fun H locs hS => ?_)
          exact w_Mod_findNames_J125 C x1 F x2 x3 r_24 r_30 M_31  q h hE _ _ _ hS (lv_sub hl [1, 2, 3, 4, 0] rfl)
        · replace h := ifn c_29 h
          refine lv_iconst (v := 1) hx hb dX11_findNames_114 (by decide) ?_
          refine lv_goto (tgt := 125) hx hb dX11_findNames_115 (by decide) ?_
          exact w_Mod_findNames_J125 C x1 F x2 x3 r_24 1 M_25  q h hE _ _ _ hS (lv_sub hl [1, 2, 3, 4, 0] rfl)
      · replace h := ifn c_27 h
        refine lv_iconst (v := 2) hx hb dX11_findNames_100 (by decide) ?_
        refine lv_goto (tgt := 125) hx hb dX11_findNames_101 (by decide) ?_
        exact w_Mod_findNames_J125 C x1 F x2 x3 r_24 2 M_25  q h hE _ _ _ hS (lv_sub hl [1, 2, 3, 4, 0] rfl)
set_option maxHeartbeats 4000000 in
set_option maxRecDepth 100000 in
theorem w_Mod_findNames_B63 {G : Gl} {p : Program} {l : Launch} {e : Env} {s : State} {m : MethodId} {args : Array Value} {below : List Frame} {meth : Method} {c : Code} {Q : State → Prop} (C : Cx G cX11_findNames 6 RX11 p s m args c) (x1 : Int32) (F : Nat) : ∀ (σ : (Int32 × zM)) (q : Nat × (Int32 × zM)), Mod_findNames_B63 F x1 σ = some q → (E_Mod_findNames_63 G p l e s m args below meth c Q x1) q.1 q.2 → (E_Mod_findNames_63 G p l e s m args below meth c Q x1) 0 σ := by
  intro (x2, M) q h hE H locs ls hS hl
  obtain ⟨hx, hb, -⟩ := id C
  unfold Mod_findNames_B63 at h
  try dsimp only at h
  refine lv_iload_n hx hb dX11_findNames_63 rfl (lv_at hl 2 rfl) ?_
  refine lv_if_eq (tgt := 180) hx hb dX11_findNames_64 (by decide) (fun c_18 => ?_) (fun c_18 => ?_)
  · replace h := ifp c_18 h
    obtain rfl := Option.some.inj h
    exact hE _ _ _ hS (lv_sub hl [0] rfl)
  · replace h := ifn c_18 h
    refine lv_iconst (v := 0) hx hb dX11_findNames_67 (by decide) ?_
    refine lv_istore_n (lv' := [(2, .int 0), (0, .ref (G.1 + 63)), (1, .int x1)]) hx hb dX11_findNames_68 rfl hl (by decide) rfl (fun ls hl => ?_)
    refine lv_iconst (v := 0) hx hb dX11_findNames_69 (by decide) ?_
    refine lv_istore_n (lv' := [(3, .int 0), (2, .int 0), (0, .ref (G.1 + 63)), (1, .int x1)]) hx hb dX11_findNames_70 rfl hl (by decide) rfl (fun ls hl => ?_)
    obtain ⟨⟨k_52, x2_49, x3_50, M_51⟩, hq_53, h⟩ := ob h
    try dsimp only at h
    refine loopW (E := (E_Mod_findNames_71 G p l e s m _ below meth c _ x1)) (w_Mod_findNames_B71 C x1 F) F _ _ hq_53 ?_ _ _ _ hS (lv_sub hl [2, 3, 1, 0] rfl)
    by_cases ek_54 : k_52 = 1
    · replace h := ifp ek_54 h
      subst ek_54
      intro H locs ls hS hl
      refine lv_goto (tgt := 63) hx hb dX11_findNames_177 (by decide) ?_
      obtain rfl := Option.some.inj h
      exact hE _ _ _ hS (lv_sub hl [0, 1, 2] rfl)
    · replace h := ifn ek_54 h
      cases h
set_option maxHeartbeats 4000000 in
set_option maxRecDepth 100000 in
theorem c_X11_findNames (l : Launch) (G : Gl) (F : Nat) (x1 : Int32) (M : zM)  (q : Unit × zM) (h : Mod_findNames F x1 M = some q) : Met l yX11_findNames (wsM yX11_findNames cX11_findNames 6 none) (rmM 3 74) (Pre G M [.ref (G.1 + 63), .int x1]) (PoV G q) 0 0 (gA G) := by
  refine r_met (own := RX11) rfl (by decide) (Nat.le_of_ble_eq_true rfl) ?_
  intro p e s m below meth c ls C hr hlk hS hl
  have hl : lv_has ls 6 [(0, .ref (G.1 + 63)), (1, .int x1)] := hl
  obtain ⟨hx, hb, -⟩ := id C
  unfold Mod_findNames at h
  refine lv_iconst (v := 0) hx hb dX11_findNames_0 (by decide) ?_
  refine lv_istore_n (lv' := [(2, .int 0), (0, .ref (G.1 + 63)), (1, .int x1)]) hx hb dX11_findNames_1 rfl hl (by decide) rfl (fun ls hl => ?_)
  obtain ⟨⟨k_16, x2_14, M_15⟩, hq_17, h⟩ := ob h
  try dsimp only at h
  refine loopW (E := (E_Mod_findNames_2 G p l e s m _ below meth c _ x1)) (w_Mod_findNames_B2 C x1 F) F _ _ hq_17 ?_ _ _ _ hS (lv_sub hl [1, 2, 0] rfl)
  by_cases ek_62 : k_16 = 1
  · replace h := ifp ek_62 h
    subst ek_62
    intro H locs ls hS hl
    refine lv_iconst (v := 1) hx hb dX11_findNames_61 (by decide) ?_
    refine lv_istore_n (lv' := [(2, .int 1), (0, .ref (G.1 + 63)), (1, .int x1)]) hx hb dX11_findNames_62 rfl hl (by decide) rfl (fun ls hl => ?_)
    obtain ⟨⟨k_57, x2_55, M_56⟩, hq_58, h⟩ := ob h
    try dsimp only at h
    refine loopW (E := (E_Mod_findNames_63 G p l e s m _ below meth c _ x1)) (w_Mod_findNames_B63 C x1 F) F _ _ hq_58 ?_ _ _ _ hS (lv_sub hl [1, 2, 0] rfl)
    by_cases ek_61 : k_57 = 1
    · replace h := ifp ek_61 h
      subst ek_61
      intro H locs ls hS hl
      refine lv_aload_n hx hb dX11_findNames_180 rfl (lv_at hl 0 rfl) ?_
      refine lv_iconst (v := 0) hx hb dX11_findNames_181 (by decide) ?_
      obtain ⟨M_59, e_60, h⟩ := olt h
      refine r_put C hS fp_X11_238 rfl (by decide) (by decide) rfl e_60 dX11_findNames_182 (fun H locs hS => ?_)
      exact r_vret C hS hr hlk h dX11_findNames_185
    · replace h := ifn ek_61 h
      cases h
  · replace h := ifn ek_62 h
    cases h
def E_Mod_read_28 (G : Gl) (p : Program) (l : Launch) (e : Env) (s : State) (m : MethodId) (args : Array Value) (below : List Frame) (meth : Method) (c : Code) (Q : State → Prop) (x1 : Int32) : Nat → (Int32 × zM) → Prop := fun k (x2, M) => match k with
  | 0 => ∀ (H : Heap) (locs : List Loc) (ls : Array Slot), St G M s H locs → lv_has ls 3 [(0, .ref (G.1 + 63)), (1, .int x1), (2, .int x2)] → W p l e (rmM 6 141) s m args below meth c H locs 0 0 Q (F0 m 28 ls [])
  | 1 => ∀ (H : Heap) (locs : List Loc) (ls : Array Slot), St G M s H locs → lv_has ls 3 [(0, .ref (G.1 + 63)), (1, .int x1), (2, .int x2)] → W p l e (rmM 6 141) s m args below meth c H locs 0 0 Q (F0 m 47 ls [])
  | _ => True
set_option maxHeartbeats 4000000 in
set_option maxRecDepth 100000 in
theorem w_Mod_read_B28 {G : Gl} {p : Program} {l : Launch} {e : Env} {s : State} {m : MethodId} {args : Array Value} {below : List Frame} {meth : Method} {c : Code} {Q : State → Prop} (C : Cx G cX11_read 3 RX11 p s m args c) (x1 : Int32) (F : Nat) : ∀ (σ : (Int32 × zM)) (q : Nat × (Int32 × zM)), Mod_read_B28 F x1 σ = some q → (E_Mod_read_28 G p l e s m args below meth c Q x1) q.1 q.2 → (E_Mod_read_28 G p l e s m args below meth c Q x1) 0 σ := by
  intro (x2, M) q h hE H locs ls hS hl
  obtain ⟨hx, hb, -⟩ := id C
  unfold Mod_read_B28 at h
  try dsimp only at h
  refine lv_iload_n hx hb dX11_read_28 rfl (lv_at hl 2 rfl) ?_
  refine lv_if_ne (tgt := 47) hx hb dX11_read_29 (by decide) (fun c_11 => ?_) (fun c_11 => ?_)
  · replace h := ifn c_11 h
    obtain rfl := Option.some.inj h
    exact hE _ _ _ hS (lv_sub hl [0, 1, 2] rfl)
  · replace h := ifp c_11 h
    refine lv_aload_n hx hb dX11_read_32 rfl (lv_at hl 0 rfl) ?_
    obtain ⟨⟨r_12, M_13⟩, hq_14, h⟩ := ob h
    try dsimp only at h
    refine r_thenI hS (r_runV C hS hl.1 cv_X11_139 rfl (c_X11_here l G F  M  _ hq_14) ⟨by decide, by decide⟩ rfl rfl (Nat.le_of_ble_eq_true rfl) ⟨Nat.zero_le _, Nat.zero_le _⟩ dX11_read_33) (fun H locs hS => ?_)
    refine lv_if_lt (tgt := 47) hx hb dX11_read_36 (by decide) (fun c_15 => ?_) (fun c_15 => ?_)
    · replace h := ifp c_15 h
      obtain rfl := Option.some.inj h
      exact hE _ _ _ hS (lv_sub hl [0, 1, 2] rfl)
    · replace h := ifn c_15 h
      refine lv_aload_n hx hb dX11_read_39 rfl (lv_at hl 0 rfl) ?_
      obtain ⟨⟨r_16, M_17⟩, hq_18, h⟩ := ob h
      try dsimp only at h
      refine r_thenI hS (r_runV C hS hl.1 cv_X11_198 rfl (c_X11_takeClause l G F  M_13  _ hq_18) ⟨by decide, by decide⟩ rfl rfl (Nat.le_of_ble_eq_true rfl) ⟨Nat.zero_le _, Nat.zero_le _⟩ dX11_read_40) (fun H locs hS => ?_)
      refine lv_istore_n (lv' := [(2, .int r_16), (0, .ref (G.1 + 63)), (1, .int x1)]) hx hb dX11_read_43 rfl hl (by decide) rfl (fun ls hl => ?_)
      refine lv_goto (tgt := 28) hx hb dX11_read_44 (by decide) ?_
      obtain rfl := Option.some.inj h
      exact hE _ _ _ hS (lv_sub hl [1, 2, 0] rfl)
set_option maxHeartbeats 4000000 in
set_option maxRecDepth 100000 in
theorem w_Mod_read_J47 {G : Gl} {p : Program} {l : Launch} {e : Env} {s : State} {m : MethodId} {args : Array Value} {below : List Frame} {meth : Method} {c : Code} (C : Cx G cX11_read 3 RX11 p s m args c) (hr : meth.sig.returnType = (some .int)) (hlk : meth.locks = false) (F : Nat) (x1 : Int32) (x2 : Int32) (M : zM)  (q : Int32 × zM) (h : Mod_read_J47 F x1 x2 M = some q) (H : Heap) (locs : List Loc) (ls : Array Slot) (hS : St G M s H locs) (hl : lv_has ls 3 [(0, .ref (G.1 + 63)), (1, .int x1), (2, .int x2)]) : W p l e (rmM 6 141) s m args below meth c H locs 0 0 (MQ below (PoI G q) args s 0 0 (gA G)) (F0 m 47 ls []) := by
  obtain ⟨hx, hb, -⟩ := id C
  unfold Mod_read_J47 at h
  refine lv_aload_n hx hb dX11_read_47 rfl (lv_at hl 0 rfl) ?_
  refine lv_iconst (v := 0) hx hb dX11_read_48 (by decide) ?_
  obtain ⟨M_23, e_24, h⟩ := olt h
  refine r_pI C hS fp_X11_131 rfl rfl e_24 dX11_read_49 (fun H locs hS => ?_)
  refine lv_iload_n hx hb dX11_read_52 rfl (lv_at hl 2 rfl) ?_
  refine lv_if_le (tgt := 61) hx hb dX11_read_53 (by decide) (fun c_25 => ?_) (fun c_25 => ?_)
  · replace h := ifp c_25 h
    refine lv_aload_n hx hb dX11_read_61 rfl (lv_at hl 0 rfl) ?_
    refine lv_iload_n hx hb dX11_read_62 rfl (lv_at hl 1 rfl) ?_
    obtain ⟨⟨_r_26, M_27⟩, hq_28, h⟩ := ob h
    try dsimp only at h
    refine r_thenV hS (r_runV C hS hl.1 cv_X11_201 rfl (c_X11_keep l G F x1 M_23  _ hq_28) ⟨by decide, by decide⟩ rfl rfl (Nat.le_of_ble_eq_true rfl) ⟨Nat.zero_le _, Nat.zero_le _⟩ dX11_read_63) (fun H locs hS => ?_)
    refine lv_aload_n hx hb dX11_read_66 rfl (lv_at hl 0 rfl) ?_
    refine lv_iload_n hx hb dX11_read_67 rfl (lv_at hl 1 rfl) ?_
    obtain ⟨⟨_r_29, M_30⟩, hq_31, h⟩ := ob h
    try dsimp only at h
    refine r_thenV hS (r_runV C hS hl.1 cv_X11_205 rfl (c_X11_findNames l G F x1 M_27  _ hq_31) ⟨by decide, by decide⟩ rfl rfl (Nat.le_of_ble_eq_true rfl) ⟨Nat.zero_le _, Nat.zero_le _⟩ dX11_read_68) (fun H locs hS => ?_)
    refine lv_aload_n hx hb dX11_read_71 rfl (lv_at hl 0 rfl) ?_
    refine r_gI C hS fl_X11_185 rfl rfl dX11_read_72 ?_
    exact r_iret C hS hr hlk h dX11_read_75
  · replace h := ifn c_25 h
    refine lv_bipush (v := (-10)) hx hb dX11_read_56 (by decide) ?_
    refine lv_iload_n hx hb dX11_read_58 rfl (lv_at hl 2 rfl) ?_
    refine lv_isub hx hb dX11_read_59 ?_
    exact r_iret C hS hr hlk h dX11_read_60
set_option maxHeartbeats 4000000 in
set_option maxRecDepth 100000 in
theorem c_X11_read (l : Launch) (G : Gl) (F : Nat) (x1 : Int32) (M : zM)  (q : Int32 × zM) (h : Mod_read F x1 M = some q) : Met l yX11_read (wsM yX11_read cX11_read 3 (some .int)) (rmM 6 141) (Pre G M [.ref (G.1 + 63), .int x1]) (PoI G q) 0 0 (gA G) := by
  refine r_met (own := RX11) rfl (by decide) (Nat.le_of_ble_eq_true rfl) ?_
  intro p e s m below meth c ls C hr hlk hS hl
  have hl : lv_has ls 3 [(0, .ref (G.1 + 63)), (1, .int x1)] := hl
  obtain ⟨hx, hb, -⟩ := id C
  unfold Mod_read at h
  refine lv_iload_n hx hb dX11_read_0 rfl (lv_at hl 1 rfl) ?_
  obtain ⟨⟨r_1, M_2⟩, hq_3, h⟩ := ob h
  try dsimp only at h
  refine r_thenI hS (r_runS C hS hl.1 cs_X11_194 (c_X11_isTongue l G F x1 M  _ hq_3) ⟨by decide, by decide⟩ rfl rfl (Nat.le_of_ble_eq_true rfl) ⟨Nat.zero_le _, Nat.zero_le _⟩ dX11_read_1) (fun H locs hS => ?_)
  refine lv_if_ne (tgt := 11) hx hb dX11_read_4 (by decide) (fun c_4 => ?_) (fun c_4 => ?_)
  · replace h := ifn c_4 h
    refine lv_aload_n hx hb dX11_read_11 rfl (lv_at hl 0 rfl) ?_
    refine lv_iconst (v := (-1)) hx hb dX11_read_12 (by decide) ?_
    obtain ⟨M_5, e_6, h⟩ := olt h
    refine r_pI C hS fp_X11_60 rfl rfl e_6 dX11_read_13 (fun H locs hS => ?_)
    refine lv_aload_n hx hb dX11_read_16 rfl (lv_at hl 0 rfl) ?_
    refine lv_iconst (v := 0) hx hb dX11_read_17 (by decide) ?_
    obtain ⟨M_7, e_8, h⟩ := olt h
    refine r_pI C hS fp_X11_136 rfl rfl e_8 dX11_read_18 (fun H locs hS => ?_)
    refine lv_aload_n hx hb dX11_read_21 rfl (lv_at hl 0 rfl) ?_
    refine lv_iconst (v := 0) hx hb dX11_read_22 (by decide) ?_
    obtain ⟨M_9, e_10, h⟩ := olt h
    refine r_pI C hS fp_X11_185 rfl rfl e_10 dX11_read_23 (fun H locs hS => ?_)
    refine lv_iconst (v := 0) hx hb dX11_read_26 (by decide) ?_
    refine lv_istore_n (lv' := [(2, .int 0), (0, .ref (G.1 + 63)), (1, .int x1)]) hx hb dX11_read_27 rfl hl (by decide) rfl (fun ls hl => ?_)
    obtain ⟨⟨k_21, x2_19, M_20⟩, hq_22, h⟩ := ob h
    try dsimp only at h
    refine loopW (E := (E_Mod_read_28 G p l e s m _ below meth c _ x1)) (w_Mod_read_B28 C x1 F) F _ _ hq_22 ?_ _ _ _ hS (lv_sub hl [1, 2, 0] rfl)
    by_cases ek_32 : k_21 = 1
    · replace h := ifp ek_32 h
      subst ek_32
      intro H locs ls hS hl
      exact w_Mod_read_J47 C hr hlk F x1 x2_19 M_20  q h _ _ _ hS (lv_sub hl [0, 1, 2] rfl)
    · replace h := ifn ek_32 h
      cases h
  · replace h := ifp c_4 h
    refine lv_sipush (v := (-1001)) hx hb dX11_read_7 (by decide) ?_
    exact r_iret C hS hr hlk h dX11_read_10
set_option maxHeartbeats 4000000 in
set_option maxRecDepth 100000 in
theorem c_X11_fault (l : Launch) (G : Gl) (F : Nat)  (M : zM)  (q : Int32 × zM) (h : Mod_fault F  M = some q) : Met l yX11_fault (wsM yX11_fault cX11_fault 1 (some .int)) (rmM 0 0) (Pre G M [.ref (G.1 + 63)]) (PoI G q) 0 0 (gA G) := by
  refine r_met (own := RX11) rfl (by decide) (Nat.le_of_ble_eq_true rfl) ?_
  intro p e s m below meth c ls C hr hlk hS hl
  have hl : lv_has ls 1 [(0, .ref (G.1 + 63))] := hl
  obtain ⟨hx, hb, -⟩ := id C
  unfold Mod_fault at h
  refine lv_aload_n hx hb dX11_fault_0 rfl (lv_at hl 0 rfl) ?_
  refine r_gI C hS fl_X11_60 rfl rfl dX11_fault_1 ?_
  exact r_iret C hS hr hlk h dX11_fault_4
set_option maxHeartbeats 4000000 in
set_option maxRecDepth 100000 in
theorem c_X11_name (l : Launch) (G : Gl) (F : Nat) (x1 : Int32) (x2 : Int32) (x3 : Int32) (M : zM)  (q : Int32 × zM) (h : Mod_name F x1 x2 x3 M = some q) : Met l yX11_name (wsM yX11_name cX11_name 5 (some .int)) (rmM 2 45) (Pre G M [.ref (G.1 + 63), .int x1, .int x2, .int x3]) (PoI G q) 0 0 (gA G) := by
  refine r_met (own := RX11) rfl (by decide) (Nat.le_of_ble_eq_true rfl) ?_
  intro p e s m below meth c ls C hr hlk hS hl
  have hl : lv_has ls 5 [(0, .ref (G.1 + 63)), (1, .int x1), (2, .int x2), (3, .int x3)] := hl
  obtain ⟨hx, hb, -⟩ := id C
  unfold Mod_name at h
  refine lv_iload_n hx hb dX11_name_0 rfl (lv_at hl 1 rfl) ?_
  obtain ⟨⟨r_1, M_2⟩, hq_3, h⟩ := ob h
  try dsimp only at h
  refine r_thenI hS (r_runS C hS hl.1 cs_X11_194 (c_X11_isTongue l G F x1 M  _ hq_3) ⟨by decide, by decide⟩ rfl rfl (Nat.le_of_ble_eq_true rfl) ⟨Nat.zero_le _, Nat.zero_le _⟩ dX11_name_1) (fun H locs hS => ?_)
  refine lv_if_eq (tgt := 14) hx hb dX11_name_4 (by decide) (fun c_4 => ?_) (fun c_4 => ?_)
  · replace h := ifp c_4 h
    refine lv_sipush (v := (-1001)) hx hb dX11_name_14 (by decide) ?_
    exact r_iret C hS hr hlk h dX11_name_17
  · replace h := ifn c_4 h
    refine lv_iload_n hx hb dX11_name_7 rfl (lv_at hl 2 rfl) ?_
    obtain ⟨⟨r_5, M_6⟩, hq_7, h⟩ := ob h
    try dsimp only at h
    refine r_thenI hS (r_runS C hS hl.1 cs_X11_216 (c_X11_isNumber l G F x2 M_2  _ hq_7) ⟨by decide, by decide⟩ rfl rfl (Nat.le_of_ble_eq_true rfl) ⟨Nat.zero_le _, Nat.zero_le _⟩ dX11_name_8) (fun H locs hS => ?_)
    refine lv_if_ne (tgt := 18) hx hb dX11_name_11 (by decide) (fun c_8 => ?_) (fun c_8 => ?_)
    · replace h := ifn c_8 h
      refine lv_sipush (v := 1000) hx hb dX11_name_18 (by decide) ?_
      refine lv_iload_n hx hb dX11_name_21 rfl (lv_at hl 1 rfl) ?_
      refine lv_imul hx hb dX11_name_22 ?_
      refine lv_iload_n hx hb dX11_name_23 rfl (lv_at hl 2 rfl) ?_
      refine lv_iadd hx hb dX11_name_24 ?_
      obtain ⟨x4_9, e_10, h⟩ := olt h
      refine r_nI e_10 ?_
      refine lv_istore (lv' := [(4, .int x4_9), (0, .ref (G.1 + 63)), (1, .int x1), (2, .int x2), (3, .int x3)]) hx hb dX11_name_25 hl (by decide) rfl (fun ls hl => ?_)
      refine lv_iload_n hx hb dX11_name_27 rfl (lv_at hl 4 rfl) ?_
      refine lv_iconst (v := (-1)) hx hb dX11_name_28 (by decide) ?_
      refine lv_icmp_ne (tgt := 42) hx hb dX11_name_29 (by decide) (fun c_11 => ?_) (fun c_11 => ?_)
      · replace h := ifn c_11 h
        refine lv_iload_n hx hb dX11_name_42 rfl (lv_at hl 4 rfl) ?_
        refine lv_i2l (v := x3.toInt64) hx hb dX11_name_43 rfl ?_
        refine lv_lconst (v := 0) hx hb dX11_name_44 (by decide) ?_
        refine lv_aload_n hx hb dX11_name_45 rfl (lv_at hl 1 rfl) ?_
        refine r_gR C hS fl_X11_41 rfl rfl rfl dX11_name_46 ?_
        refine lv_iload hx hb dX11_name_49 (lv_at hl 0 rfl) ?_
        obtain ⟨b_12, h⟩ := ift h
        refine r_iald C hS rfl rfl b_12 dX11_name_51 ?_
        refine lv_iconst (v := 1) hx hb dX11_name_52 (by decide) ?_
        refine lv_isub hx hb dX11_name_53 ?_
        refine lv_i2l (v := ((M_6.1 74 x4_9.toNatClampNeg) - 1).toInt64) hx hb dX11_name_54 rfl ?_
        obtain ⟨⟨r_13, M_14⟩, hq_15, h⟩ := ob h
        try dsimp only at h
        refine r_thenI hS (r_runS C hS hl.1 cs_X11_123 (c_X11_in l G F x3.toInt64 0 (((M_6.1 74 x4_9.toNatClampNeg) - 1).toInt64) M_6  _ hq_15) ⟨by decide, by decide⟩ rfl rfl (Nat.le_of_ble_eq_true rfl) ⟨Nat.zero_le _, Nat.zero_le _⟩ dX11_name_55) (fun H locs hS => ?_)
        refine lv_if_eq (tgt := 71) hx hb dX11_name_58 (by decide) (fun c_16 => ?_) (fun c_16 => ?_)
        · replace h := ifp c_16 h
          refine lv_iconst (v := (-1)) hx hb dX11_name_71 (by decide) ?_
          exact r_iret C hS hr hlk h dX11_name_72
        · replace h := ifn c_16 h
          refine lv_aload_n hx hb dX11_name_61 rfl (lv_at hl 1 rfl) ?_
          refine lv_iload hx hb dX11_name_62 (lv_at hl 0 rfl) ?_
          refine lv_iload_n hx hb dX11_name_64 rfl (lv_at hl 4 rfl) ?_
          obtain ⟨⟨r_17, M_18⟩, hq_19, h⟩ := ob h
          try dsimp only at h
          refine r_thenI hS (r_runV C hS hl.1 cv_X11_222 rfl (c_X11_byteOf l G F x4_9 x3 M_14  _ hq_19) ⟨by decide, by decide⟩ rfl rfl (Nat.le_of_ble_eq_true rfl) ⟨Nat.zero_le _, Nat.zero_le _⟩ dX11_name_65) (fun H locs hS => ?_)
          refine lv_goto (tgt := 72) hx hb dX11_name_68 (by decide) ?_
          exact r_iret C hS hr hlk h dX11_name_72
      · replace h := ifp c_11 h
        refine lv_aload_n hx hb dX11_name_32 rfl (lv_at hl 1 rfl) ?_
        refine r_gR C hS fl_X11_41 rfl rfl rfl dX11_name_33 ?_
        refine lv_iload hx hb dX11_name_36 (lv_at hl 0 rfl) ?_
        obtain ⟨b_20, h⟩ := ift h
        refine r_iald C hS rfl rfl b_20 dX11_name_38 ?_
        refine lv_goto (tgt := 72) hx hb dX11_name_39 (by decide) ?_
        exact r_iret C hS hr hlk h dX11_name_72
    · replace h := ifp c_8 h
      refine lv_sipush (v := (-1001)) hx hb dX11_name_14 (by decide) ?_
      exact r_iret C hS hr hlk h dX11_name_17
set_option maxHeartbeats 4000000 in
set_option maxRecDepth 100000 in
theorem c_X11_lettersOf (l : Launch) (G : Gl) (F : Nat) (x1 : Int32) (x2 : Int32) (M : zM)  (q : Int32 × zM) (h : Mod_lettersOf F x1 x2 M = some q) : Met l yX11_lettersOf (wsM yX11_lettersOf cX11_lettersOf 4 (some .int)) (rmM 0 0) (Pre G M [.ref (G.1 + 63), .int x1, .int x2]) (PoI G q) 0 0 (gA G) := by
  refine r_met (own := RX11) rfl (by decide) (Nat.le_of_ble_eq_true rfl) ?_
  intro p e s m below meth c ls C hr hlk hS hl
  have hl : lv_has ls 4 [(0, .ref (G.1 + 63)), (1, .int x1), (2, .int x2)] := hl
  obtain ⟨hx, hb, -⟩ := id C
  unfold Mod_lettersOf at h
  refine lv_sipush (v := 1000) hx hb dX11_lettersOf_0 (by decide) ?_
  refine lv_iload_n hx hb dX11_lettersOf_3 rfl (lv_at hl 1 rfl) ?_
  refine lv_imul hx hb dX11_lettersOf_4 ?_
  refine lv_iload_n hx hb dX11_lettersOf_5 rfl (lv_at hl 2 rfl) ?_
  refine lv_iadd hx hb dX11_lettersOf_6 ?_
  obtain ⟨x3_1, e_2, h⟩ := olt h
  refine r_nI e_2 ?_
  refine lv_istore_n (lv' := [(3, .int x3_1), (0, .ref (G.1 + 63)), (1, .int x1), (2, .int x2)]) hx hb dX11_lettersOf_7 rfl hl (by decide) rfl (fun ls hl => ?_)
  refine lv_aload_n hx hb dX11_lettersOf_8 rfl (lv_at hl 1 rfl) ?_
  refine r_gR C hS fl_X11_41 rfl rfl rfl dX11_lettersOf_9 ?_
  refine lv_iload_n hx hb dX11_lettersOf_12 rfl (lv_at hl 0 rfl) ?_
  obtain ⟨b_3, h⟩ := ift h
  refine r_iald C hS rfl rfl b_3 dX11_lettersOf_13 ?_
  refine lv_if_ge (tgt := 21) hx hb dX11_lettersOf_14 (by decide) (fun c_4 => ?_) (fun c_4 => ?_)
  · replace h := ifp c_4 h
    refine lv_aload_n hx hb dX11_lettersOf_21 rfl (lv_at hl 1 rfl) ?_
    refine r_gR C hS fl_X11_54 rfl rfl rfl dX11_lettersOf_22 ?_
    refine lv_iload_n hx hb dX11_lettersOf_25 rfl (lv_at hl 0 rfl) ?_
    refine r_iald C hS rfl rfl b_3 dX11_lettersOf_26 ?_
    exact r_iret C hS hr hlk h dX11_lettersOf_27
  · replace h := ifn c_4 h
    refine lv_iconst (v := (-1)) hx hb dX11_lettersOf_17 (by decide) ?_
    refine lv_goto (tgt := 27) hx hb dX11_lettersOf_18 (by decide) ?_
    exact r_iret C hS hr hlk h dX11_lettersOf_27
set_option maxHeartbeats 4000000 in
set_option maxRecDepth 100000 in
theorem c_X11_letters (l : Launch) (G : Gl) (F : Nat) (x1 : Int32) (x2 : Int32) (M : zM)  (q : Int32 × zM) (h : Mod_letters F x1 x2 M = some q) : Met l yX11_letters (wsM yX11_letters cX11_letters 3 (some .int)) (rmM 2 45) (Pre G M [.ref (G.1 + 63), .int x1, .int x2]) (PoI G q) 0 0 (gA G) := by
  refine r_met (own := RX11) rfl (by decide) (Nat.le_of_ble_eq_true rfl) ?_
  intro p e s m below meth c ls C hr hlk hS hl
  have hl : lv_has ls 3 [(0, .ref (G.1 + 63)), (1, .int x1), (2, .int x2)] := hl
  obtain ⟨hx, hb, -⟩ := id C
  unfold Mod_letters at h
  refine lv_iload_n hx hb dX11_letters_0 rfl (lv_at hl 1 rfl) ?_
  obtain ⟨⟨r_1, M_2⟩, hq_3, h⟩ := ob h
  try dsimp only at h
  refine r_thenI hS (r_runS C hS hl.1 cs_X11_194 (c_X11_isTongue l G F x1 M  _ hq_3) ⟨by decide, by decide⟩ rfl rfl (Nat.le_of_ble_eq_true rfl) ⟨Nat.zero_le _, Nat.zero_le _⟩ dX11_letters_1) (fun H locs hS => ?_)
  refine lv_if_eq (tgt := 23) hx hb dX11_letters_4 (by decide) (fun c_4 => ?_) (fun c_4 => ?_)
  · replace h := ifp c_4 h
    refine lv_sipush (v := (-1001)) hx hb dX11_letters_23 (by decide) ?_
    exact r_iret C hS hr hlk h dX11_letters_26
  · replace h := ifn c_4 h
    refine lv_iload_n hx hb dX11_letters_7 rfl (lv_at hl 2 rfl) ?_
    obtain ⟨⟨r_5, M_6⟩, hq_7, h⟩ := ob h
    try dsimp only at h
    refine r_thenI hS (r_runS C hS hl.1 cs_X11_216 (c_X11_isNumber l G F x2 M_2  _ hq_7) ⟨by decide, by decide⟩ rfl rfl (Nat.le_of_ble_eq_true rfl) ⟨Nat.zero_le _, Nat.zero_le _⟩ dX11_letters_8) (fun H locs hS => ?_)
    refine lv_if_eq (tgt := 23) hx hb dX11_letters_11 (by decide) (fun c_8 => ?_) (fun c_8 => ?_)
    · replace h := ifp c_8 h
      refine lv_sipush (v := (-1001)) hx hb dX11_letters_23 (by decide) ?_
      exact r_iret C hS hr hlk h dX11_letters_26
    · replace h := ifn c_8 h
      refine lv_aload_n hx hb dX11_letters_14 rfl (lv_at hl 0 rfl) ?_
      refine lv_iload_n hx hb dX11_letters_15 rfl (lv_at hl 1 rfl) ?_
      refine lv_iload_n hx hb dX11_letters_16 rfl (lv_at hl 2 rfl) ?_
      obtain ⟨⟨r_9, M_10⟩, hq_11, h⟩ := ob h
      try dsimp only at h
      refine r_thenI hS (r_runV C hS hl.1 cv_X11_242 rfl (c_X11_lettersOf l G F x1 x2 M_6  _ hq_11) ⟨by decide, by decide⟩ rfl rfl (Nat.le_of_ble_eq_true rfl) ⟨Nat.zero_le _, Nat.zero_le _⟩ dX11_letters_17) (fun H locs hS => ?_)
      refine lv_goto (tgt := 26) hx hb dX11_letters_20 (by decide) ?_
      exact r_iret C hS hr hlk h dX11_letters_26
set_option maxHeartbeats 4000000 in
set_option maxRecDepth 100000 in
theorem c_X11_by (l : Launch) (G : Gl) (F : Nat) (x1 : Int32) (x2 : Int32) (M : zM)  (q : Int32 × zM) (h : Mod_by F x1 x2 M = some q) : Met l yX11_by (wsM yX11_by cX11_by 3 (some .int)) (rmM 2 45) (Pre G M [.ref (G.1 + 63), .int x1, .int x2]) (PoI G q) 0 0 (gA G) := by
  refine r_met (own := RX11) rfl (by decide) (Nat.le_of_ble_eq_true rfl) ?_
  intro p e s m below meth c ls C hr hlk hS hl
  have hl : lv_has ls 3 [(0, .ref (G.1 + 63)), (1, .int x1), (2, .int x2)] := hl
  obtain ⟨hx, hb, -⟩ := id C
  unfold Mod_by at h
  refine lv_iload_n hx hb dX11_by_0 rfl (lv_at hl 1 rfl) ?_
  obtain ⟨⟨r_1, M_2⟩, hq_3, h⟩ := ob h
  try dsimp only at h
  refine r_thenI hS (r_runS C hS hl.1 cs_X11_194 (c_X11_isTongue l G F x1 M  _ hq_3) ⟨by decide, by decide⟩ rfl rfl (Nat.le_of_ble_eq_true rfl) ⟨Nat.zero_le _, Nat.zero_le _⟩ dX11_by_1) (fun H locs hS => ?_)
  refine lv_if_eq (tgt := 29) hx hb dX11_by_4 (by decide) (fun c_4 => ?_) (fun c_4 => ?_)
  · replace h := ifp c_4 h
    refine lv_sipush (v := (-1001)) hx hb dX11_by_29 (by decide) ?_
    exact r_iret C hS hr hlk h dX11_by_32
  · replace h := ifn c_4 h
    refine lv_iload_n hx hb dX11_by_7 rfl (lv_at hl 2 rfl) ?_
    obtain ⟨⟨r_5, M_6⟩, hq_7, h⟩ := ob h
    try dsimp only at h
    refine r_thenI hS (r_runS C hS hl.1 cs_X11_216 (c_X11_isNumber l G F x2 M_2  _ hq_7) ⟨by decide, by decide⟩ rfl rfl (Nat.le_of_ble_eq_true rfl) ⟨Nat.zero_le _, Nat.zero_le _⟩ dX11_by_8) (fun H locs hS => ?_)
    refine lv_if_eq (tgt := 29) hx hb dX11_by_11 (by decide) (fun c_8 => ?_) (fun c_8 => ?_)
    · replace h := ifp c_8 h
      refine lv_sipush (v := (-1001)) hx hb dX11_by_29 (by decide) ?_
      exact r_iret C hS hr hlk h dX11_by_32
    · replace h := ifn c_8 h
      refine lv_aload_n hx hb dX11_by_14 rfl (lv_at hl 0 rfl) ?_
      refine r_gR C hS fl_X11_51 rfl rfl rfl dX11_by_15 ?_
      refine lv_sipush (v := 1000) hx hb dX11_by_18 (by decide) ?_
      refine lv_iload_n hx hb dX11_by_21 rfl (lv_at hl 1 rfl) ?_
      refine lv_imul hx hb dX11_by_22 ?_
      refine lv_iload_n hx hb dX11_by_23 rfl (lv_at hl 2 rfl) ?_
      refine lv_iadd hx hb dX11_by_24 ?_
      obtain ⟨b_9, h⟩ := ift h
      refine r_iald C hS rfl rfl b_9 dX11_by_25 ?_
      refine lv_goto (tgt := 32) hx hb dX11_by_26 (by decide) ?_
      exact r_iret C hS hr hlk h dX11_by_32
set_option maxHeartbeats 4000000 in
set_option maxRecDepth 100000 in
theorem c_X11_deep (l : Launch) (G : Gl) (F : Nat) (x1 : Int32) (x2 : Int32) (M : zM)  (q : Int32 × zM) (h : Mod_deep F x1 x2 M = some q) : Met l yX11_deep (wsM yX11_deep cX11_deep 3 (some .int)) (rmM 2 45) (Pre G M [.ref (G.1 + 63), .int x1, .int x2]) (PoI G q) 0 0 (gA G) := by
  refine r_met (own := RX11) rfl (by decide) (Nat.le_of_ble_eq_true rfl) ?_
  intro p e s m below meth c ls C hr hlk hS hl
  have hl : lv_has ls 3 [(0, .ref (G.1 + 63)), (1, .int x1), (2, .int x2)] := hl
  obtain ⟨hx, hb, -⟩ := id C
  unfold Mod_deep at h
  refine lv_iload_n hx hb dX11_deep_0 rfl (lv_at hl 1 rfl) ?_
  obtain ⟨⟨r_1, M_2⟩, hq_3, h⟩ := ob h
  try dsimp only at h
  refine r_thenI hS (r_runS C hS hl.1 cs_X11_194 (c_X11_isTongue l G F x1 M  _ hq_3) ⟨by decide, by decide⟩ rfl rfl (Nat.le_of_ble_eq_true rfl) ⟨Nat.zero_le _, Nat.zero_le _⟩ dX11_deep_1) (fun H locs hS => ?_)
  refine lv_if_eq (tgt := 29) hx hb dX11_deep_4 (by decide) (fun c_4 => ?_) (fun c_4 => ?_)
  · replace h := ifp c_4 h
    refine lv_sipush (v := (-1001)) hx hb dX11_deep_29 (by decide) ?_
    exact r_iret C hS hr hlk h dX11_deep_32
  · replace h := ifn c_4 h
    refine lv_iload_n hx hb dX11_deep_7 rfl (lv_at hl 2 rfl) ?_
    obtain ⟨⟨r_5, M_6⟩, hq_7, h⟩ := ob h
    try dsimp only at h
    refine r_thenI hS (r_runS C hS hl.1 cs_X11_216 (c_X11_isNumber l G F x2 M_2  _ hq_7) ⟨by decide, by decide⟩ rfl rfl (Nat.le_of_ble_eq_true rfl) ⟨Nat.zero_le _, Nat.zero_le _⟩ dX11_deep_8) (fun H locs hS => ?_)
    refine lv_if_eq (tgt := 29) hx hb dX11_deep_11 (by decide) (fun c_8 => ?_) (fun c_8 => ?_)
    · replace h := ifp c_8 h
      refine lv_sipush (v := (-1001)) hx hb dX11_deep_29 (by decide) ?_
      exact r_iret C hS hr hlk h dX11_deep_32
    · replace h := ifn c_8 h
      refine lv_aload_n hx hb dX11_deep_14 rfl (lv_at hl 0 rfl) ?_
      refine r_gR C hS fl_X11_48 rfl rfl rfl dX11_deep_15 ?_
      refine lv_sipush (v := 1000) hx hb dX11_deep_18 (by decide) ?_
      refine lv_iload_n hx hb dX11_deep_21 rfl (lv_at hl 1 rfl) ?_
      refine lv_imul hx hb dX11_deep_22 ?_
      refine lv_iload_n hx hb dX11_deep_23 rfl (lv_at hl 2 rfl) ?_
      refine lv_iadd hx hb dX11_deep_24 ?_
      obtain ⟨b_9, h⟩ := ift h
      refine r_iald C hS rfl rfl b_9 dX11_deep_25 ?_
      refine lv_goto (tgt := 32) hx hb dX11_deep_26 (by decide) ?_
      exact r_iret C hS hr hlk h dX11_deep_32
def E_Mod_about_27 (G : Gl) (p : Program) (l : Launch) (e : Env) (s : State) (m : MethodId) (args : Array Value) (below : List Frame) (meth : Method) (c : Code) (Q : State → Prop) (x1 : Int32) (x2 : Int32) : Nat → (Int32 × Int32 × Int32 × Int32 × Int32 × zM) → Prop := fun k (x3, x4, x5, x6, x7, M) => match k with
  | 0 => ∀ (H : Heap) (locs : List Loc) (ls : Array Slot), St G M s H locs → lv_has ls 9 [(0, .ref (G.1 + 63)), (1, .int x1), (2, .int x2), (3, .int x3), (4, .int x4), (5, .int x5), (6, .int x6), (7, .int x7)] → W p l e (rmM 2 45) s m args below meth c H locs 0 0 Q (F0 m 27 ls [])
  | 1 => ∀ (H : Heap) (locs : List Loc) (ls : Array Slot), St G M s H locs → lv_has ls 9 [(0, .ref (G.1 + 63)), (1, .int x1), (2, .int x2), (3, .int x3), (4, .int x4), (5, .int x5), (6, .int x6)] → W p l e (rmM 2 45) s m args below meth c H locs 0 0 Q (F0 m 129 ls [])
  | _ => True
set_option maxHeartbeats 4000000 in
set_option maxRecDepth 100000 in
theorem w_Mod_about_J99 {G : Gl} {p : Program} {l : Launch} {e : Env} {s : State} {m : MethodId} {args : Array Value} {below : List Frame} {meth : Method} {c : Code} {Q : State → Prop} (C : Cx G cX11_about 9 RX11 p s m args c) (x1 : Int32) (x2 : Int32) (F : Nat) (x3 : Int32) (x4 : Int32) (x6 : Int32) (x7 : Int32) (y0 : Int32) (M : zM)  (q : Nat × (Int32 × Int32 × Int32 × Int32 × Int32 × zM)) (h : Mod_about_J99 F x1 x2 x3 x4 x6 x7 y0 M = some q) (hE : (E_Mod_about_27 G p l e s m args below meth c Q x1 x2) q.1 q.2) (H : Heap) (locs : List Loc) (ls : Array Slot) (hS : St G M s H locs) (hl : lv_has ls 9 [(0, .ref (G.1 + 63)), (1, .int x1), (2, .int x2), (3, .int x3), (4, .int x4), (6, .int x6), (7, .int x7)]) : W p l e (rmM 2 45) s m args below meth c H locs 0 0 Q (F0 m 99 ls [.int y0]) := by
  obtain ⟨hx, hb, -⟩ := id C
  unfold Mod_about_J99 at h
  refine lv_istore (lv' := [(5, .int y0), (0, .ref (G.1 + 63)), (1, .int x1), (2, .int x2), (3, .int x3), (4, .int x4), (6, .int x6), (7, .int x7)]) hx hb dX11_about_99 hl (by decide) rfl (fun ls hl => ?_)
  refine lv_iload hx hb dX11_about_101 (lv_at hl 6 rfl) ?_
  refine lv_aload_n hx hb dX11_about_103 rfl (lv_at hl 1 rfl) ?_
  refine lv_iload_n hx hb dX11_about_104 rfl (lv_at hl 2 rfl) ?_
  refine lv_iload hx hb dX11_about_105 (lv_at hl 7 rfl) ?_
  obtain ⟨⟨r_13, M_14⟩, hq_15, h⟩ := ob h
  try dsimp only at h
  refine r_thenI hS (r_runV C hS hl.1 cv_X11_242 rfl (c_X11_lettersOf l G F x1 x7 M  _ hq_15) ⟨by decide, by decide⟩ rfl rfl (Nat.le_of_ble_eq_true rfl) ⟨Nat.zero_le _, Nat.zero_le _⟩ dX11_about_107) (fun H locs hS => ?_)
  refine lv_iload hx hb dX11_about_110 (lv_at hl 7 rfl) ?_
  refine lv_icmp_ne (tgt := 119) hx hb dX11_about_112 (by decide) (fun c_16 => ?_) (fun c_16 => ?_)
  · replace h := ifn c_16 h
    refine lv_iconst (v := 0) hx hb dX11_about_119 (by decide) ?_
    refine lv_iadd hx hb dX11_about_120 ?_
    obtain ⟨x6_17, e_18, h⟩ := olt h
    refine r_nI e_18 ?_
    refine lv_istore (lv' := [(6, .int x6_17), (5, .int y0), (0, .ref (G.1 + 63)), (1, .int x1), (2, .int x2), (3, .int x3), (4, .int x4), (7, .int x7)]) hx hb dX11_about_121 hl (by decide) rfl (fun ls hl => ?_)
    obtain ⟨x7_19, e_20, h⟩ := olt h
    refine lv_iinc (v := x7_19) (lv' := [(7, .int x7_19), (6, .int x6_17), (5, .int y0), (0, .ref (G.1 + 63)), (1, .int x1), (2, .int x2), (3, .int x3), (4, .int x4)]) hx hb dX11_about_123 hl (k := 7) rfl (by rw [e_20]; rfl) (by decide) rfl (fun ls hl => ?_)
    refine lv_goto (tgt := 27) hx hb dX11_about_126 (by decide) ?_
    obtain rfl := Option.some.inj h
    exact hE _ _ _ hS (lv_sub hl [3, 4, 5, 6, 7, 2, 1, 0] rfl)
  · replace h := ifp c_16 h
    refine lv_iconst (v := 1) hx hb dX11_about_115 (by decide) ?_
    refine lv_goto (tgt := 120) hx hb dX11_about_116 (by decide) ?_
    refine lv_iadd hx hb dX11_about_120 ?_
    obtain ⟨x6_21, e_22, h⟩ := olt h
    refine r_nI e_22 ?_
    refine lv_istore (lv' := [(6, .int x6_21), (5, .int y0), (0, .ref (G.1 + 63)), (1, .int x1), (2, .int x2), (3, .int x3), (4, .int x4), (7, .int x7)]) hx hb dX11_about_121 hl (by decide) rfl (fun ls hl => ?_)
    obtain ⟨x7_23, e_24, h⟩ := olt h
    refine lv_iinc (v := x7_23) (lv' := [(7, .int x7_23), (6, .int x6_21), (5, .int y0), (0, .ref (G.1 + 63)), (1, .int x1), (2, .int x2), (3, .int x3), (4, .int x4)]) hx hb dX11_about_123 hl (k := 7) rfl (by rw [e_24]; rfl) (by decide) rfl (fun ls hl => ?_)
    refine lv_goto (tgt := 27) hx hb dX11_about_126 (by decide) ?_
    obtain rfl := Option.some.inj h
    exact hE _ _ _ hS (lv_sub hl [3, 4, 5, 6, 7, 2, 1, 0] rfl)
set_option maxHeartbeats 4000000 in
set_option maxRecDepth 100000 in
theorem w_Mod_about_J85 {G : Gl} {p : Program} {l : Launch} {e : Env} {s : State} {m : MethodId} {args : Array Value} {below : List Frame} {meth : Method} {c : Code} {Q : State → Prop} (C : Cx G cX11_about 9 RX11 p s m args c) (x1 : Int32) (x2 : Int32) (F : Nat) (x3 : Int32) (x5 : Int32) (x6 : Int32) (x7 : Int32) (x8 : Int32) (y0 : Int32) (M : zM)  (q : Nat × (Int32 × Int32 × Int32 × Int32 × Int32 × zM)) (h : Mod_about_J85 F x1 x2 x3 x5 x6 x7 x8 y0 M = some q) (hE : (E_Mod_about_27 G p l e s m args below meth c Q x1 x2) q.1 q.2) (H : Heap) (locs : List Loc) (ls : Array Slot) (hS : St G M s H locs) (hl : lv_has ls 9 [(0, .ref (G.1 + 63)), (1, .int x1), (2, .int x2), (3, .int x3), (5, .int x5), (6, .int x6), (7, .int x7), (8, .int x8)]) : W p l e (rmM 2 45) s m args below meth c H locs 0 0 Q (F0 m 85 ls [.int y0]) := by
  obtain ⟨hx, hb, -⟩ := id C
  unfold Mod_about_J85 at h
  refine lv_istore (lv' := [(4, .int y0), (0, .ref (G.1 + 63)), (1, .int x1), (2, .int x2), (3, .int x3), (5, .int x5), (6, .int x6), (7, .int x7), (8, .int x8)]) hx hb dX11_about_85 hl (by decide) rfl (fun ls hl => ?_)
  refine lv_iload hx hb dX11_about_87 (lv_at hl 8 rfl) ?_
  refine lv_if_eq (tgt := 97) hx hb dX11_about_89 (by decide) (fun c_12 => ?_) (fun c_12 => ?_)
  · replace h := ifp c_12 h
    refine lv_iload hx hb dX11_about_97 (lv_at hl 7 rfl) ?_
    exact w_Mod_about_J99 C x1 x2 F x3 y0 x6 x7 x7 M  q h hE _ _ _ hS (lv_sub hl [1, 2, 3, 4, 0, 6, 7] rfl)
  · replace h := ifn c_12 h
    refine lv_iload hx hb dX11_about_92 (lv_at hl 5 rfl) ?_
    refine lv_goto (tgt := 99) hx hb dX11_about_94 (by decide) ?_
    exact w_Mod_about_J99 C x1 x2 F x3 y0 x6 x7 x5 M  q h hE _ _ _ hS (lv_sub hl [1, 2, 3, 4, 0, 6, 7] rfl)
set_option maxHeartbeats 4000000 in
set_option maxRecDepth 100000 in
theorem w_Mod_about_J83 {G : Gl} {p : Program} {l : Launch} {e : Env} {s : State} {m : MethodId} {args : Array Value} {below : List Frame} {meth : Method} {c : Code} {Q : State → Prop} (C : Cx G cX11_about 9 RX11 p s m args c) (x1 : Int32) (x2 : Int32) (F : Nat) (x3 : Int32) (x4 : Int32) (x5 : Int32) (x6 : Int32) (x7 : Int32) (x8 : Int32) (M : zM)  (q : Nat × (Int32 × Int32 × Int32 × Int32 × Int32 × zM)) (h : Mod_about_J83 F x1 x2 x3 x4 x5 x6 x7 x8 M = some q) (hE : (E_Mod_about_27 G p l e s m args below meth c Q x1 x2) q.1 q.2) (H : Heap) (locs : List Loc) (ls : Array Slot) (hS : St G M s H locs) (hl : lv_has ls 9 [(0, .ref (G.1 + 63)), (1, .int x1), (2, .int x2), (3, .int x3), (4, .int x4), (5, .int x5), (6, .int x6), (7, .int x7), (8, .int x8)]) : W p l e (rmM 2 45) s m args below meth c H locs 0 0 Q (F0 m 83 ls []) := by
  obtain ⟨hx, hb, -⟩ := id C
  unfold Mod_about_J83 at h
  refine lv_iload hx hb dX11_about_83 (lv_at hl 4 rfl) ?_
  exact w_Mod_about_J85 C x1 x2 F x3 x5 x6 x7 x8 x4 M  q h hE _ _ _ hS (lv_sub hl [0, 1, 2, 3, 5, 6, 7, 8] rfl)
set_option maxHeartbeats 4000000 in
set_option maxRecDepth 100000 in
theorem w_Mod_about_J66 {G : Gl} {p : Program} {l : Launch} {e : Env} {s : State} {m : MethodId} {args : Array Value} {below : List Frame} {meth : Method} {c : Code} {Q : State → Prop} (C : Cx G cX11_about 9 RX11 p s m args c) (x1 : Int32) (x2 : Int32) (F : Nat) (x4 : Int32) (x5 : Int32) (x6 : Int32) (x7 : Int32) (x8 : Int32) (y0 : Int32) (y1 : Int32) (M : zM)  (q : Nat × (Int32 × Int32 × Int32 × Int32 × Int32 × zM)) (h : Mod_about_J66 F x1 x2 x4 x5 x6 x7 x8 y0 y1 M = some q) (hE : (E_Mod_about_27 G p l e s m args below meth c Q x1 x2) q.1 q.2) (H : Heap) (locs : List Loc) (ls : Array Slot) (hS : St G M s H locs) (hl : lv_has ls 9 [(0, .ref (G.1 + 63)), (1, .int x1), (2, .int x2), (4, .int x4), (5, .int x5), (6, .int x6), (7, .int x7), (8, .int x8)]) : W p l e (rmM 2 45) s m args below meth c H locs 0 0 Q (F0 m 66 ls [.int y1, .int y0]) := by
  obtain ⟨hx, hb, -⟩ := id C
  unfold Mod_about_J66 at h
  refine lv_iadd hx hb dX11_about_66 ?_
  obtain ⟨x3_9, e_10, h⟩ := olt h
  refine r_nI e_10 ?_
  refine lv_istore_n (lv' := [(3, .int x3_9), (0, .ref (G.1 + 63)), (1, .int x1), (2, .int x2), (4, .int x4), (5, .int x5), (6, .int x6), (7, .int x7), (8, .int x8)]) hx hb dX11_about_67 rfl hl (by decide) rfl (fun ls hl => ?_)
  refine lv_iload hx hb dX11_about_68 (lv_at hl 8 rfl) ?_
  refine lv_if_eq (tgt := 83) hx hb dX11_about_70 (by decide) (fun c_11 => ?_) (fun c_11 => ?_)
  · replace h := ifp c_11 h
    exact w_Mod_about_J83 C x1 x2 F x3_9 x4 x5 x6 x7 x8 M  q h hE _ _ _ hS (lv_sub hl [1, 2, 3, 0, 4, 5, 6, 7, 8] rfl)
  · replace h := ifn c_11 h
    refine lv_iload hx hb dX11_about_73 (lv_at hl 4 rfl) ?_
    refine lv_if_ge (tgt := 83) hx hb dX11_about_75 (by decide) (fun c_25 => ?_) (fun c_25 => ?_)
    · replace h := ifp c_25 h
      exact w_Mod_about_J83 C x1 x2 F x3_9 x4 x5 x6 x7 x8 M  q h hE _ _ _ hS (lv_sub hl [1, 2, 3, 0, 4, 5, 6, 7, 8] rfl)
    · replace h := ifn c_25 h
      refine lv_iload hx hb dX11_about_78 (lv_at hl 7 rfl) ?_
      refine lv_goto (tgt := 85) hx hb dX11_about_80 (by decide) ?_
      exact w_Mod_about_J85 C x1 x2 F x3_9 x5 x6 x7 x8 x7 M  q h hE _ _ _ hS (lv_sub hl [1, 2, 3, 0, 5, 6, 7, 8] rfl)
set_option maxHeartbeats 4000000 in
set_option maxRecDepth 100000 in
theorem w_Mod_about_J53 {G : Gl} {p : Program} {l : Launch} {e : Env} {s : State} {m : MethodId} {args : Array Value} {below : List Frame} {meth : Method} {c : Code} {Q : State → Prop} (C : Cx G cX11_about 9 RX11 p s m args c) (x1 : Int32) (x2 : Int32) (F : Nat) (x3 : Int32) (x4 : Int32) (x5 : Int32) (x6 : Int32) (x7 : Int32) (y0 : Int32) (M : zM)  (q : Nat × (Int32 × Int32 × Int32 × Int32 × Int32 × zM)) (h : Mod_about_J53 F x1 x2 x3 x4 x5 x6 x7 y0 M = some q) (hE : (E_Mod_about_27 G p l e s m args below meth c Q x1 x2) q.1 q.2) (H : Heap) (locs : List Loc) (ls : Array Slot) (hS : St G M s H locs) (hl : lv_has ls 9 [(0, .ref (G.1 + 63)), (1, .int x1), (2, .int x2), (3, .int x3), (4, .int x4), (5, .int x5), (6, .int x6), (7, .int x7)]) : W p l e (rmM 2 45) s m args below meth c H locs 0 0 Q (F0 m 53 ls [.int y0]) := by
  obtain ⟨hx, hb, -⟩ := id C
  unfold Mod_about_J53 at h
  refine lv_istore (lv' := [(8, .int y0), (0, .ref (G.1 + 63)), (1, .int x1), (2, .int x2), (3, .int x3), (4, .int x4), (5, .int x5), (6, .int x6), (7, .int x7)]) hx hb dX11_about_53 hl (by decide) rfl (fun ls hl => ?_)
  refine lv_iload_n hx hb dX11_about_55 rfl (lv_at hl 4 rfl) ?_
  refine lv_iload hx hb dX11_about_56 (lv_at hl 0 rfl) ?_
  refine lv_if_eq (tgt := 65) hx hb dX11_about_58 (by decide) (fun c_8 => ?_) (fun c_8 => ?_)
  · replace h := ifp c_8 h
    refine lv_iconst (v := 0) hx hb dX11_about_65 (by decide) ?_
    exact w_Mod_about_J66 C x1 x2 F x4 x5 x6 x7 y0 x3 0 M  q h hE _ _ _ hS (lv_sub hl [1, 2, 3, 5, 6, 7, 8, 0] rfl)
  · replace h := ifn c_8 h
    refine lv_iconst (v := 1) hx hb dX11_about_61 (by decide) ?_
    refine lv_goto (tgt := 66) hx hb dX11_about_62 (by decide) ?_
    exact w_Mod_about_J66 C x1 x2 F x4 x5 x6 x7 y0 x3 1 M  q h hE _ _ _ hS (lv_sub hl [1, 2, 3, 5, 6, 7, 8, 0] rfl)
set_option maxHeartbeats 4000000 in
set_option maxRecDepth 100000 in
theorem w_Mod_about_B27 {G : Gl} {p : Program} {l : Launch} {e : Env} {s : State} {m : MethodId} {args : Array Value} {below : List Frame} {meth : Method} {c : Code} {Q : State → Prop} (C : Cx G cX11_about 9 RX11 p s m args c) (x1 : Int32) (x2 : Int32) (F : Nat) : ∀ (σ : (Int32 × Int32 × Int32 × Int32 × Int32 × zM)) (q : Nat × (Int32 × Int32 × Int32 × Int32 × Int32 × zM)), Mod_about_B27 F x1 x2 σ = some q → (E_Mod_about_27 G p l e s m args below meth c Q x1 x2) q.1 q.2 → (E_Mod_about_27 G p l e s m args below meth c Q x1 x2) 0 σ := by
  intro (x3, x4, x5, x6, x7, M) q h hE H locs ls hS hl
  obtain ⟨hx, hb, -⟩ := id C
  unfold Mod_about_B27 at h
  try dsimp only at h
  refine lv_iload hx hb dX11_about_27 (lv_at hl 7 rfl) ?_
  refine lv_if_lt (tgt := 129) hx hb dX11_about_29 (by decide) (fun c_5 => ?_) (fun c_5 => ?_)
  · replace h := ifp c_5 h
    obtain rfl := Option.some.inj h
    exact hE _ _ _ hS (lv_sub hl [0, 1, 2, 3, 4, 5, 6] rfl)
  · replace h := ifn c_5 h
    refine lv_aload_n hx hb dX11_about_32 rfl (lv_at hl 0 rfl) ?_
    refine r_gR C hS fl_X11_41 rfl rfl rfl dX11_about_33 ?_
    refine lv_sipush (v := 1000) hx hb dX11_about_36 (by decide) ?_
    refine lv_iload_n hx hb dX11_about_39 rfl (lv_at hl 1 rfl) ?_
    refine lv_imul hx hb dX11_about_40 ?_
    refine lv_iload hx hb dX11_about_41 (lv_at hl 7 rfl) ?_
    refine lv_iadd hx hb dX11_about_43 ?_
    obtain ⟨b_6, h⟩ := ift h
    refine r_iald C hS rfl rfl b_6 dX11_about_44 ?_
    refine lv_if_lt (tgt := 52) hx hb dX11_about_45 (by decide) (fun c_7 => ?_) (fun c_7 => ?_)
    · replace h := ifp c_7 h
      refine lv_iconst (v := 0) hx hb dX11_about_52 (by decide) ?_
      exact w_Mod_about_J53 C x1 x2 F x3 x4 x5 x6 x7 0 M  q h hE _ _ _ hS (lv_sub hl [0, 1, 2, 3, 4, 5, 6, 7] rfl)
    · replace h := ifn c_7 h
      refine lv_iconst (v := 1) hx hb dX11_about_48 (by decide) ?_
      refine lv_goto (tgt := 53) hx hb dX11_about_49 (by decide) ?_
      exact w_Mod_about_J53 C x1 x2 F x3 x4 x5 x6 x7 1 M  q h hE _ _ _ hS (lv_sub hl [0, 1, 2, 3, 4, 5, 6, 7] rfl)
set_option maxHeartbeats 4000000 in
set_option maxRecDepth 100000 in
theorem c_X11_about (l : Launch) (G : Gl) (F : Nat) (x1 : Int32) (x2 : Int32) (M : zM)  (q : Int32 × zM) (h : Mod_about F x1 x2 M = some q) : Met l yX11_about (wsM yX11_about cX11_about 9 (some .int)) (rmM 2 45) (Pre G M [.ref (G.1 + 63), .int x1, .int x2]) (PoI G q) 0 0 (gA G) := by
  refine r_met (own := RX11) rfl (by decide) (Nat.le_of_ble_eq_true rfl) ?_
  intro p e s m below meth c ls C hr hlk hS hl
  have hl : lv_has ls 9 [(0, .ref (G.1 + 63)), (1, .int x1), (2, .int x2)] := hl
  obtain ⟨hx, hb, -⟩ := id C
  unfold Mod_about at h
  refine lv_iload_n hx hb dX11_about_0 rfl (lv_at hl 1 rfl) ?_
  obtain ⟨⟨r_1, M_2⟩, hq_3, h⟩ := ob h
  try dsimp only at h
  refine r_thenI hS (r_runS C hS hl.1 cs_X11_194 (c_X11_isTongue l G F x1 M  _ hq_3) ⟨by decide, by decide⟩ rfl rfl (Nat.le_of_ble_eq_true rfl) ⟨Nat.zero_le _, Nat.zero_le _⟩ dX11_about_1) (fun H locs hS => ?_)
  refine lv_if_ne (tgt := 11) hx hb dX11_about_4 (by decide) (fun c_4 => ?_) (fun c_4 => ?_)
  · replace h := ifn c_4 h
    refine lv_iconst (v := 0) hx hb dX11_about_11 (by decide) ?_
    refine lv_istore_n (lv' := [(3, .int 0), (0, .ref (G.1 + 63)), (1, .int x1), (2, .int x2)]) hx hb dX11_about_12 rfl hl (by decide) rfl (fun ls hl => ?_)
    refine lv_iconst (v := (-1)) hx hb dX11_about_13 (by decide) ?_
    refine lv_istore (lv' := [(4, .int (-1)), (3, .int 0), (0, .ref (G.1 + 63)), (1, .int x1), (2, .int x2)]) hx hb dX11_about_14 hl (by decide) rfl (fun ls hl => ?_)
    refine lv_iconst (v := (-1)) hx hb dX11_about_16 (by decide) ?_
    refine lv_istore (lv' := [(5, .int (-1)), (4, .int (-1)), (3, .int 0), (0, .ref (G.1 + 63)), (1, .int x1), (2, .int x2)]) hx hb dX11_about_17 hl (by decide) rfl (fun ls hl => ?_)
    refine lv_iconst (v := 0) hx hb dX11_about_19 (by decide) ?_
    refine lv_istore (lv' := [(6, .int 0), (5, .int (-1)), (4, .int (-1)), (3, .int 0), (0, .ref (G.1 + 63)), (1, .int x1), (2, .int x2)]) hx hb dX11_about_20 hl (by decide) rfl (fun ls hl => ?_)
    refine lv_sipush (v := 999) hx hb dX11_about_22 (by decide) ?_
    refine lv_istore (lv' := [(7, .int 999), (6, .int 0), (5, .int (-1)), (4, .int (-1)), (3, .int 0), (0, .ref (G.1 + 63)), (1, .int x1), (2, .int x2)]) hx hb dX11_about_25 hl (by decide) rfl (fun ls hl => ?_)
    obtain ⟨⟨k_32, x3_26, x4_27, x5_28, x6_29, x7_30, M_31⟩, hq_33, h⟩ := ob h
    try dsimp only at h
    refine loopW (E := (E_Mod_about_27 G p l e s m _ below meth c _ x1 x2)) (w_Mod_about_B27 C x1 x2 F) F _ _ hq_33 ?_ _ _ _ hS (lv_sub hl [5, 6, 7, 4, 3, 2, 1, 0] rfl)
    by_cases ek_42 : k_32 = 1
    · replace h := ifp ek_42 h
      subst ek_42
      intro H locs ls hS hl
      refine lv_iload_n hx hb dX11_about_129 rfl (lv_at hl 2 rfl) ?_
      by_cases c_34 : x2 = 0
      · replace h := ifp c_34 h
        refine r_nI c_34.symm ?_
        refine lv_tableIn (tgt := 172) (off := 42) hx hb dX11_about_130 (by decide) (by decide) (by decide) (by decide) ?_
        refine lv_aload_n hx hb dX11_about_172 rfl (lv_at hl 0 rfl) ?_
        refine r_gR C hS fl_X11_7 rfl rfl rfl dX11_about_173 ?_
        refine lv_iload_n hx hb dX11_about_176 rfl (lv_at hl 1 rfl) ?_
        obtain ⟨b_41, h⟩ := ift h
        refine r_iald C hS rfl rfl b_41 dX11_about_177 ?_
        exact r_iret C hS hr hlk h dX11_about_178
      · replace h := ifn c_34 h
        by_cases c_35 : x2 = 1
        · replace h := ifp c_35 h
          refine r_nI c_35.symm ?_
          refine lv_tableIn (tgt := 179) (off := 49) hx hb dX11_about_130 (by decide) (by decide) (by decide) (by decide) ?_
          refine lv_iload_n hx hb dX11_about_179 rfl (lv_at hl 3 rfl) ?_
          exact r_iret C hS hr hlk h dX11_about_180
        · replace h := ifn c_35 h
          by_cases c_36 : x2 = 2
          · replace h := ifp c_36 h
            refine r_nI c_36.symm ?_
            refine lv_tableIn (tgt := 181) (off := 51) hx hb dX11_about_130 (by decide) (by decide) (by decide) (by decide) ?_
            refine lv_iload hx hb dX11_about_181 (lv_at hl 4 rfl) ?_
            exact r_iret C hS hr hlk h dX11_about_183
          · replace h := ifn c_36 h
            by_cases c_37 : x2 = 3
            · replace h := ifp c_37 h
              refine r_nI c_37.symm ?_
              refine lv_tableIn (tgt := 184) (off := 54) hx hb dX11_about_130 (by decide) (by decide) (by decide) (by decide) ?_
              refine lv_iload hx hb dX11_about_184 (lv_at hl 5 rfl) ?_
              exact r_iret C hS hr hlk h dX11_about_186
            · replace h := ifn c_37 h
              by_cases c_38 : x2 = 4
              · replace h := ifp c_38 h
                refine r_nI c_38.symm ?_
                refine lv_tableIn (tgt := 187) (off := 57) hx hb dX11_about_130 (by decide) (by decide) (by decide) (by decide) ?_
                refine lv_iload hx hb dX11_about_187 (lv_at hl 6 rfl) ?_
                exact r_iret C hS hr hlk h dX11_about_189
              · replace h := ifn c_38 h
                by_cases c_39 : x2 = 5
                · replace h := ifp c_39 h
                  refine r_nI c_39.symm ?_
                  refine lv_tableIn (tgt := 190) (off := 60) hx hb dX11_about_130 (by decide) (by decide) (by decide) (by decide) ?_
                  refine lv_aload_n hx hb dX11_about_190 rfl (lv_at hl 0 rfl) ?_
                  refine r_gI C hS fl_X11_131 rfl rfl dX11_about_191 ?_
                  exact r_iret C hS hr hlk h dX11_about_194
                · replace h := ifn c_39 h
                  by_cases c_40 : x2 = 6
                  · replace h := ifp c_40 h
                    refine r_nI c_40.symm ?_
                    refine lv_tableIn (tgt := 195) (off := 65) hx hb dX11_about_130 (by decide) (by decide) (by decide) (by decide) ?_
                    refine lv_aload_n hx hb dX11_about_195 rfl (lv_at hl 0 rfl) ?_
                    refine r_gI C hS fl_X11_245 rfl rfl dX11_about_196 ?_
                    exact r_iret C hS hr hlk h dX11_about_199
                  · replace h := ifn c_40 h
                    refine lv_tableOut (tgt := 200) hx hb dX11_about_130 (by have := ne_toInt c_34 (n := 0) (by decide); have := ne_toInt c_35 (n := 1) (by decide); have := ne_toInt c_36 (n := 2) (by decide); have := ne_toInt c_37 (n := 3) (by decide); have := ne_toInt c_38 (n := 4) (by decide); have := ne_toInt c_39 (n := 5) (by decide); have := ne_toInt c_40 (n := 6) (by decide); omega) (by decide) ?_
                    refine lv_sipush (v := (-1002)) hx hb dX11_about_200 (by decide) ?_
                    exact r_iret C hS hr hlk h dX11_about_203
    · replace h := ifn ek_42 h
      cases h
  · replace h := ifp c_4 h
    refine lv_sipush (v := (-1001)) hx hb dX11_about_7 (by decide) ?_
    exact r_iret C hS hr hlk h dX11_about_10

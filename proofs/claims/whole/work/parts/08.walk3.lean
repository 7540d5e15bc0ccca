set_option maxHeartbeats 4000000 in
set_option maxRecDepth 100000 in
theorem c_X8_hasRoomFor (l : Launch) (G : Gl) (F : Nat) (x1 : Int32) (M : zM)  (q : Int32 × zM) (h : Tex_hasRoomFor F x1 M = some q) : Met l yX8_hasRoomFor (wsM yX8_hasRoomFor cX8_hasRoomFor 2 (some .boolean)) (rmM 0 0) (Pre G M [.ref (G.1 + 1), .int x1]) (PoI G q) 0 0 (gA G) := by
  refine r_met (own := RX8) rfl (by decide) (Nat.le_of_ble_eq_true rfl) ?_
  intro p e s m below meth c ls C hr hlk hS hl
  have hl : lv_has ls 2 [(0, .ref (G.1 + 1)), (1, .int x1)] := hl
  obtain ⟨hx, hb, -⟩ := id C
  unfold Tex_hasRoomFor at h
  refine lv_aload_n hx hb dX8_hasRoomFor_0 rfl (lv_at hl 0 rfl) ?_
  refine r_gI C hS fl_X8_15 rfl rfl dX8_hasRoomFor_1 ?_
  refine lv_iload_n hx hb dX8_hasRoomFor_4 rfl (lv_at hl 1 rfl) ?_
  refine lv_iadd hx hb dX8_hasRoomFor_5 ?_
  refine lv_sipush (v := 240) hx hb dX8_hasRoomFor_6 (by decide) ?_
  refine lv_icmp_gt (tgt := 16) hx hb dX8_hasRoomFor_9 (by decide) (fun c_1 => ?_) (fun c_1 => ?_)
  · replace h := ifp c_1 h
    refine lv_iconst (v := 0) hx hb dX8_hasRoomFor_16 (by decide) ?_
    exact r_zret C hS hr hlk h dX8_hasRoomFor_17
  · replace h := ifn c_1 h
    refine lv_iconst (v := 1) hx hb dX8_hasRoomFor_12 (by decide) ?_
    refine lv_goto (tgt := 17) hx hb dX8_hasRoomFor_13 (by decide) ?_
    exact r_zret C hS hr hlk h dX8_hasRoomFor_17
set_option maxHeartbeats 4000000 in
set_option maxRecDepth 100000 in
theorem c_X8_append (l : Launch) (G : Gl) (F : Nat) (x1 : Int32) (M : zM)  (q : Unit × zM) (h : Tex_append F x1 M = some q) : Met l yX8_append (wsM yX8_append cX8_append 2 none) (rmM 0 0) (Pre G M [.ref (G.1 + 1), .int x1]) (PoV G q) 0 0 (gA G) := by
  refine r_met (own := RX8) rfl (by decide) (Nat.le_of_ble_eq_true rfl) ?_
  intro p e s m below meth c ls C hr hlk hS hl
  have hl : lv_has ls 2 [(0, .ref (G.1 + 1)), (1, .int x1)] := hl
  obtain ⟨hx, hb, -⟩ := id C
  unfold Tex_append at h
  refine lv_aload_n hx hb dX8_append_0 rfl (lv_at hl 0 rfl) ?_
  refine r_gI C hS fl_X8_15 rfl rfl dX8_append_1 ?_
  refine lv_sipush (v := 240) hx hb dX8_append_4 (by decide) ?_
  refine lv_icmp_ge (tgt := 27) hx hb dX8_append_7 (by decide) (fun c_1 => ?_) (fun c_1 => ?_)
  · replace h := ifp c_1 h
    exact r_vret C hS hr hlk h dX8_append_27
  · replace h := ifn c_1 h
    refine lv_aload_n hx hb dX8_append_10 rfl (lv_at hl 0 rfl) ?_
    refine r_gR C hS fl_X8_11 rfl rfl rfl dX8_append_11 ?_
    refine lv_aload_n hx hb dX8_append_14 rfl (lv_at hl 0 rfl) ?_
    refine lv_dup hx hb dX8_append_15 rfl ?_
    refine r_gI C hS fl_X8_15 rfl rfl dX8_append_16 ?_
    obtain ⟨d_2, e_3, h⟩ := olt h
    refine r_nI e_3 ?_
    refine lv_dup_x1 hx hb dX8_append_19 rfl rfl ?_
    refine lv_iconst (v := 1) hx hb dX8_append_20 (by decide) ?_
    refine lv_iadd hx hb dX8_append_21 ?_
    obtain ⟨M_4, e_5, h⟩ := olt h
    refine r_pI C hS fp_X8_15 rfl rfl e_5 dX8_append_22 (fun H locs hS => ?_)
    refine lv_iload_n hx hb dX8_append_25 rfl (lv_at hl 1 rfl) ?_
    obtain ⟨b_6, h⟩ := ift h
    obtain ⟨M_7, e_8, h⟩ := olt h
    refine r_bast C hS rfl rfl b_6 e_8 dX8_append_26 (fun H locs hS => ?_)
    exact r_vret C hS hr hlk h dX8_append_27
set_option maxHeartbeats 4000000 in
set_option maxRecDepth 100000 in
theorem c_X8_empty (l : Launch) (G : Gl) (F : Nat)  (M : zM)  (q : Unit × zM) (h : Tex_empty F  M = some q) : Met l yX8_empty (wsM yX8_empty cX8_empty 1 none) (rmM 0 0) (Pre G M [.ref (G.1 + 1)]) (PoV G q) 0 0 (gA G) := by
  refine r_met (own := RX8) rfl (by decide) (Nat.le_of_ble_eq_true rfl) ?_
  intro p e s m below meth c ls C hr hlk hS hl
  have hl : lv_has ls 1 [(0, .ref (G.1 + 1))] := hl
  obtain ⟨hx, hb, -⟩ := id C
  unfold Tex_empty at h
  refine lv_aload_n hx hb dX8_empty_0 rfl (lv_at hl 0 rfl) ?_
  refine lv_iconst (v := 0) hx hb dX8_empty_1 (by decide) ?_
  obtain ⟨M_1, e_2, h⟩ := olt h
  refine r_pI C hS fp_X8_15 rfl rfl e_2 dX8_empty_2 (fun H locs hS => ?_)
  refine lv_aload_n hx hb dX8_empty_5 rfl (lv_at hl 0 rfl) ?_
  refine lv_iconst (v := 0) hx hb dX8_empty_6 (by decide) ?_
  obtain ⟨M_3, e_4, h⟩ := olt h
  refine r_pI C hS fp_X8_19 rfl rfl e_4 dX8_empty_7 (fun H locs hS => ?_)
  exact r_vret C hS hr hlk h dX8_empty_10
set_option maxHeartbeats 4000000 in
set_option maxRecDepth 100000 in
theorem c_X8_size (l : Launch) (G : Gl) (F : Nat)  (M : zM)  (q : Int32 × zM) (h : Tex_size F  M = some q) : Met l yX8_size (wsM yX8_size cX8_size 1 (some .int)) (rmM 0 0) (Pre G M [.ref (G.1 + 1)]) (PoI G q) 0 0 (gA G) := by
  refine r_met (own := RX8) rfl (by decide) (Nat.le_of_ble_eq_true rfl) ?_
  intro p e s m below meth c ls C hr hlk hS hl
  have hl : lv_has ls 1 [(0, .ref (G.1 + 1))] := hl
  obtain ⟨hx, hb, -⟩ := id C
  unfold Tex_size at h
  refine lv_aload_n hx hb dX8_size_0 rfl (lv_at hl 0 rfl) ?_
  refine r_gI C hS fl_X8_15 rfl rfl dX8_size_1 ?_
  exact r_iret C hS hr hlk h dX8_size_4
set_option maxHeartbeats 4000000 in
set_option maxRecDepth 100000 in
theorem c_X9_clauseCount (l : Launch) (G : Gl) (F : Nat) (a0 : Nat) (M : zM) (k0 : zK a0 = 9) (q : Int32 × zM) (h : Ton_clauseCount F a0 M = some q) : Met l yX9_clauseCount (wsM yX9_clauseCount cX9_clauseCount 1 (some .int)) (rmM 0 0) (Pre G M [.ref (G.1 + a0)]) (PoI G q) 0 0 (gA G) := by
  refine r_met (own := RX9) rfl (by decide) (Nat.le_of_ble_eq_true rfl) ?_
  intro p e s m below meth c ls C hr hlk hS hl
  have hl : lv_has ls 1 [(0, .ref (G.1 + a0))] := hl
  obtain ⟨hx, hb, -⟩ := id C
  unfold Ton_clauseCount at h
  refine lv_aload_n hx hb dX9_clauseCount_0 rfl (lv_at hl 0 rfl) ?_
  refine r_gI C hS fl_X9_42 rfl k0 dX9_clauseCount_1 ?_
  exact r_iret C hS hr hlk h dX9_clauseCount_4
set_option maxHeartbeats 4000000 in
set_option maxRecDepth 100000 in
theorem c_X9_namedCount (l : Launch) (G : Gl) (F : Nat) (a0 : Nat) (M : zM) (k0 : zK a0 = 9) (q : Int32 × zM) (h : Ton_namedCount F a0 M = some q) : Met l yX9_namedCount (wsM yX9_namedCount cX9_namedCount 1 (some .int)) (rmM 0 0) (Pre G M [.ref (G.1 + a0)]) (PoI G q) 0 0 (gA G) := by
  refine r_met (own := RX9) rfl (by decide) (Nat.le_of_ble_eq_true rfl) ?_
  intro p e s m below meth c ls C hr hlk hS hl
  have hl : lv_has ls 1 [(0, .ref (G.1 + a0))] := hl
  obtain ⟨hx, hb, -⟩ := id C
  unfold Ton_namedCount at h
  refine lv_aload_n hx hb dX9_namedCount_0 rfl (lv_at hl 0 rfl) ?_
  refine r_gI C hS fl_X9_46 rfl k0 dX9_namedCount_1 ?_
  exact r_iret C hS hr hlk h dX9_namedCount_4
def E_Ton_greatestNamed_4 (G : Gl) (p : Program) (l : Launch) (e : Env) (s : State) (m : MethodId) (args : Array Value) (below : List Frame) (meth : Method) (c : Code) (Q : State → Prop) (a0 : Nat) : Nat → (Int32 × zM) → Prop := fun k (x1, M) => match k with
  | 0 => ∀ (H : Heap) (locs : List Loc) (ls : Array Slot), St G M s H locs → lv_has ls 2 [(0, .ref (G.1 + a0)), (1, .int x1)] → W p l e (rmM 1 21) s m args below meth c H locs 0 0 Q (F0 m 4 ls [])
  | 1 => ∀ (H : Heap) (locs : List Loc) (ls : Array Slot), St G M s H locs → lv_has ls 2 [(1, .int x1)] → W p l e (rmM 1 21) s m args below meth c H locs 0 0 Q (F0 m 16 ls [])
  | 2 => ∀ (H : Heap) (locs : List Loc) (ls : Array Slot), St G M s H locs → lv_has ls 2 [] → W p l e (rmM 1 21) s m args below meth c H locs 0 0 Q (F0 m 24 ls [])
  | _ => True
set_option maxHeartbeats 4000000 in
set_option maxRecDepth 100000 in
theorem w_Ton_greatestNamed_B4 {G : Gl} {p : Program} {l : Launch} {e : Env} {s : State} {m : MethodId} {args : Array Value} {below : List Frame} {meth : Method} {c : Code} {Q : State → Prop} (C : Cx G cX9_greatestNamed 2 RX9 p s m args c) (a0 : Nat) (k0 : zK a0 = 9) (F : Nat) : ∀ (σ : (Int32 × zM)) (q : Nat × (Int32 × zM)), Ton_greatestNamed_B4 F a0 σ = some q → (E_Ton_greatestNamed_4 G p l e s m args below meth c Q a0) q.1 q.2 → (E_Ton_greatestNamed_4 G p l e s m args below meth c Q a0) 0 σ := by
  intro (x1, M) q h hE H locs ls hS hl
  obtain ⟨hx, hb, -⟩ := id C
  unfold Ton_greatestNamed_B4 at h
  try dsimp only at h
  refine lv_iload_n hx hb dX9_greatestNamed_4 rfl (lv_at hl 1 rfl) ?_
  refine lv_if_lt (tgt := 24) hx hb dX9_greatestNamed_5 (by decide) (fun c_1 => ?_) (fun c_1 => ?_)
  · replace h := ifp c_1 h
    obtain rfl := Option.some.inj h
    exact hE _ _ _ hS (lv_sub hl [] rfl)
  · replace h := ifn c_1 h
    refine lv_aload_n hx hb dX9_greatestNamed_8 rfl (lv_at hl 0 rfl) ?_
    refine lv_iload_n hx hb dX9_greatestNamed_9 rfl (lv_at hl 1 rfl) ?_
    obtain ⟨⟨r_2, M_3⟩, hq_4, h⟩ := ob h
    try dsimp only at h
    refine r_thenI hS (r_runV C hS hl.1 cv_X9_72 k0 (c_X9_has l G F a0 x1 M k0 _ hq_4) ⟨by decide, by decide⟩ rfl rfl (Nat.le_of_ble_eq_true rfl) ⟨Nat.zero_le _, Nat.zero_le _⟩ dX9_greatestNamed_10) (fun H locs hS => ?_)
    refine lv_if_eq (tgt := 18) hx hb dX9_greatestNamed_13 (by decide) (fun c_5 => ?_) (fun c_5 => ?_)
    · replace h := ifp c_5 h
      obtain ⟨x1_6, e_7, h⟩ := olt h
      refine lv_iinc (v := x1_6) (lv' := [(1, .int x1_6), (0, .ref (G.1 + a0))]) hx hb dX9_greatestNamed_18 hl (k := 1) rfl (by rw [e_7]; rfl) (by decide) rfl (fun ls hl => ?_)
      refine lv_goto (tgt := 4) hx hb dX9_greatestNamed_21 (by decide) ?_
      obtain rfl := Option.some.inj h
      exact hE _ _ _ hS (lv_sub hl [1, 0] rfl)
    · replace h := ifn c_5 h
      obtain rfl := Option.some.inj h
      exact hE _ _ _ hS (lv_sub hl [1] rfl)
set_option maxHeartbeats 4000000 in
set_option maxRecDepth 100000 in
theorem c_X9_greatestNamed (l : Launch) (G : Gl) (F : Nat) (a0 : Nat) (M : zM) (k0 : zK a0 = 9) (q : Int32 × zM) (h : Ton_greatestNamed F a0 M = some q) : Met l yX9_greatestNamed (wsM yX9_greatestNamed cX9_greatestNamed 2 (some .int)) (rmM 1 21) (Pre G M [.ref (G.1 + a0)]) (PoI G q) 0 0 (gA G) := by
  refine r_met (own := RX9) rfl (by decide) (Nat.le_of_ble_eq_true rfl) ?_
  intro p e s m below meth c ls C hr hlk hS hl
  have hl : lv_has ls 2 [(0, .ref (G.1 + a0))] := hl
  obtain ⟨hx, hb, -⟩ := id C
  unfold Ton_greatestNamed at h
  refine lv_sipush (v := 999) hx hb dX9_greatestNamed_0 (by decide) ?_
  refine lv_istore_n (lv' := [(1, .int 999), (0, .ref (G.1 + a0))]) hx hb dX9_greatestNamed_3 rfl hl (by decide) rfl (fun ls hl => ?_)
  obtain ⟨⟨k_10, x1_8, M_9⟩, hq_11, h⟩ := ob h
  try dsimp only at h
  refine loopW (E := (E_Ton_greatestNamed_4 G p l e s m _ below meth c _ a0)) (w_Ton_greatestNamed_B4 C a0 k0 F) F _ _ hq_11 ?_ _ _ _ hS (lv_sub hl [1, 0] rfl)
  by_cases ek_13 : k_10 = 1
  · replace h := ifp ek_13 h
    subst ek_13
    intro H locs ls hS hl
    refine lv_iload_n hx hb dX9_greatestNamed_16 rfl (lv_at hl 0 rfl) ?_
    exact r_iret C hS hr hlk h dX9_greatestNamed_17
  · replace h := ifn ek_13 h
    by_cases ek_12 : k_10 = 2
    · replace h := ifp ek_12 h
      subst ek_12
      intro H locs ls hS hl
      refine lv_iconst (v := (-1)) hx hb dX9_greatestNamed_24 (by decide) ?_
      exact r_iret C hS hr hlk h dX9_greatestNamed_25
    · replace h := ifn ek_12 h
      cases h
def E_Ton_leastNameless_2 (G : Gl) (p : Program) (l : Launch) (e : Env) (s : State) (m : MethodId) (args : Array Value) (below : List Frame) (meth : Method) (c : Code) (Q : State → Prop) (a0 : Nat) : Nat → (Int32 × zM) → Prop := fun k (x1, M) => match k with
  | 0 => ∀ (H : Heap) (locs : List Loc) (ls : Array Slot), St G M s H locs → lv_has ls 2 [(0, .ref (G.1 + a0)), (1, .int x1)] → W p l e (rmM 1 21) s m args below meth c H locs 0 0 Q (F0 m 2 ls [])
  | 1 => ∀ (H : Heap) (locs : List Loc) (ls : Array Slot), St G M s H locs → lv_has ls 2 [(1, .int x1)] → W p l e (rmM 1 21) s m args below meth c H locs 0 0 Q (F0 m 17 ls [])
  | 2 => ∀ (H : Heap) (locs : List Loc) (ls : Array Slot), St G M s H locs → lv_has ls 2 [] → W p l e (rmM 1 21) s m args below meth c H locs 0 0 Q (F0 m 25 ls [])
  | _ => True
set_option maxHeartbeats 4000000 in
set_option maxRecDepth 100000 in
theorem w_Ton_leastNameless_B2 {G : Gl} {p : Program} {l : Launch} {e : Env} {s : State} {m : MethodId} {args : Array Value} {below : List Frame} {meth : Method} {c : Code} {Q : State → Prop} (C : Cx G cX9_leastNameless 2 RX9 p s m args c) (a0 : Nat) (k0 : zK a0 = 9) (F : Nat) : ∀ (σ : (Int32 × zM)) (q : Nat × (Int32 × zM)), Ton_leastNameless_B2 F a0 σ = some q → (E_Ton_leastNameless_2 G p l e s m args below meth c Q a0) q.1 q.2 → (E_Ton_leastNameless_2 G p l e s m args below meth c Q a0) 0 σ := by
  intro (x1, M) q h hE H locs ls hS hl
  obtain ⟨hx, hb, -⟩ := id C
  unfold Ton_leastNameless_B2 at h
  try dsimp only at h
  refine lv_iload_n hx hb dX9_leastNameless_2 rfl (lv_at hl 1 rfl) ?_
  refine lv_sipush (v := 1000) hx hb dX9_leastNameless_3 (by decide) ?_
  refine lv_icmp_ge (tgt := 25) hx hb dX9_leastNameless_6 (by decide) (fun c_1 => ?_) (fun c_1 => ?_)
  · replace h := ifp c_1 h
    obtain rfl := Option.some.inj h
    exact hE _ _ _ hS (lv_sub hl [] rfl)
  · replace h := ifn c_1 h
    refine lv_aload_n hx hb dX9_leastNameless_9 rfl (lv_at hl 0 rfl) ?_
    refine lv_iload_n hx hb dX9_leastNameless_10 rfl (lv_at hl 1 rfl) ?_
    obtain ⟨⟨r_2, M_3⟩, hq_4, h⟩ := ob h
    try dsimp only at h
    refine r_thenI hS (r_runV C hS hl.1 cv_X9_72 k0 (c_X9_has l G F a0 x1 M k0 _ hq_4) ⟨by decide, by decide⟩ rfl rfl (Nat.le_of_ble_eq_true rfl) ⟨Nat.zero_le _, Nat.zero_le _⟩ dX9_leastNameless_11) (fun H locs hS => ?_)
    refine lv_if_ne (tgt := 19) hx hb dX9_leastNameless_14 (by decide) (fun c_5 => ?_) (fun c_5 => ?_)
    · replace h := ifn c_5 h
      obtain ⟨x1_6, e_7, h⟩ := olt h
      refine lv_iinc (v := x1_6) (lv' := [(1, .int x1_6), (0, .ref (G.1 + a0))]) hx hb dX9_leastNameless_19 hl (k := 1) rfl (by rw [e_7]; rfl) (by decide) rfl (fun ls hl => ?_)
      refine lv_goto (tgt := 2) hx hb dX9_leastNameless_22 (by decide) ?_
      obtain rfl := Option.some.inj h
      exact hE _ _ _ hS (lv_sub hl [1, 0] rfl)
    · replace h := ifp c_5 h
      obtain rfl := Option.some.inj h
      exact hE _ _ _ hS (lv_sub hl [1] rfl)
set_option maxHeartbeats 4000000 in
set_option maxRecDepth 100000 in
theorem c_X9_leastNameless (l : Launch) (G : Gl) (F : Nat) (a0 : Nat) (M : zM) (k0 : zK a0 = 9) (q : Int32 × zM) (h : Ton_leastNameless F a0 M = some q) : Met l yX9_leastNameless (wsM yX9_leastNameless cX9_leastNameless 2 (some .int)) (rmM 1 21) (Pre G M [.ref (G.1 + a0)]) (PoI G q) 0 0 (gA G) := by
  refine r_met (own := RX9) rfl (by decide) (Nat.le_of_ble_eq_true rfl) ?_
  intro p e s m below meth c ls C hr hlk hS hl
  have hl : lv_has ls 2 [(0, .ref (G.1 + a0))] := hl
  obtain ⟨hx, hb, -⟩ := id C
  unfold Ton_leastNameless at h
  refine lv_iconst (v := 0) hx hb dX9_leastNameless_0 (by decide) ?_
  refine lv_istore_n (lv' := [(1, .int 0), (0, .ref (G.1 + a0))]) hx hb dX9_leastNameless_1 rfl hl (by decide) rfl (fun ls hl => ?_)
  obtain ⟨⟨k_10, x1_8, M_9⟩, hq_11, h⟩ := ob h
  try dsimp only at h
  refine loopW (E := (E_Ton_leastNameless_2 G p l e s m _ below meth c _ a0)) (w_Ton_leastNameless_B2 C a0 k0 F) F _ _ hq_11 ?_ _ _ _ hS (lv_sub hl [1, 0] rfl)
  by_cases ek_13 : k_10 = 1
  · replace h := ifp ek_13 h
    subst ek_13
    intro H locs ls hS hl
    refine lv_iload_n hx hb dX9_leastNameless_17 rfl (lv_at hl 0 rfl) ?_
    exact r_iret C hS hr hlk h dX9_leastNameless_18
  · replace h := ifn ek_13 h
    by_cases ek_12 : k_10 = 2
    · replace h := ifp ek_12 h
      subst ek_12
      intro H locs ls hS hl
      refine lv_iconst (v := (-1)) hx hb dX9_leastNameless_25 (by decide) ?_
      exact r_iret C hS hr hlk h dX9_leastNameless_26
    · replace h := ifn ek_12 h
      cases h
set_option maxHeartbeats 4000000 in
set_option maxRecDepth 100000 in
theorem c_X9_clauseOf (l : Launch) (G : Gl) (F : Nat) (a0 : Nat) (x1 : Int32) (M : zM) (k0 : zK a0 = 9) (q : Int32 × zM) (h : Ton_clauseOf F a0 x1 M = some q) : Met l yX9_clauseOf (wsM yX9_clauseOf cX9_clauseOf 2 (some .int)) (rmM 1 21) (Pre G M [.ref (G.1 + a0), .int x1]) (PoI G q) 0 0 (gA G) := by
  refine r_met (own := RX9) rfl (by decide) (Nat.le_of_ble_eq_true rfl) ?_
  intro p e s m below meth c ls C hr hlk hS hl
  have hl : lv_has ls 2 [(0, .ref (G.1 + a0)), (1, .int x1)] := hl
  obtain ⟨hx, hb, -⟩ := id C
  unfold Ton_clauseOf at h
  refine lv_aload_n hx hb dX9_clauseOf_0 rfl (lv_at hl 0 rfl) ?_
  refine lv_iload_n hx hb dX9_clauseOf_1 rfl (lv_at hl 1 rfl) ?_
  obtain ⟨⟨r_1, M_2⟩, hq_3, h⟩ := ob h
  try dsimp only at h
  refine r_thenI hS (r_runV C hS hl.1 cv_X9_72 k0 (c_X9_has l G F a0 x1 M k0 _ hq_3) ⟨by decide, by decide⟩ rfl rfl (Nat.le_of_ble_eq_true rfl) ⟨Nat.zero_le _, Nat.zero_le _⟩ dX9_clauseOf_2) (fun H locs hS => ?_)
  refine lv_if_eq (tgt := 17) hx hb dX9_clauseOf_5 (by decide) (fun c_4 => ?_) (fun c_4 => ?_)
  · replace h := ifp c_4 h
    refine lv_iconst (v := (-1)) hx hb dX9_clauseOf_17 (by decide) ?_
    exact r_iret C hS hr hlk h dX9_clauseOf_18
  · replace h := ifn c_4 h
    refine lv_aload_n hx hb dX9_clauseOf_8 rfl (lv_at hl 0 rfl) ?_
    refine r_gR C hS fl_X9_33 rfl k0 (zR_9_7 k0) dX9_clauseOf_9 ?_
    refine lv_iload_n hx hb dX9_clauseOf_12 rfl (lv_at hl 1 rfl) ?_
    obtain ⟨b_5, h⟩ := ift h
    refine r_iald C hS (zKr_9_7 k0) (zNr_9_7 k0) b_5 dX9_clauseOf_13 ?_
    refine lv_goto (tgt := 18) hx hb dX9_clauseOf_14 (by decide) ?_
    exact r_iret C hS hr hlk h dX9_clauseOf_18
set_option maxHeartbeats 4000000 in
set_option maxRecDepth 100000 in
theorem c_X9_sizeOrByte (l : Launch) (G : Gl) (F : Nat) (a0 : Nat) (x1 : Int32) (x2 : Int32) (M : zM) (k0 : zK a0 = 9) (q : Int32 × zM) (h : Ton_sizeOrByte F a0 x1 x2 M = some q) : Met l yX9_sizeOrByte (wsM yX9_sizeOrByte cX9_sizeOrByte 3 (some .int)) (rmM 2 47) (Pre G M [.ref (G.1 + a0), .int x1, .int x2]) (PoI G q) 0 0 (gA G) := by
  refine r_met (own := RX9) rfl (by decide) (Nat.le_of_ble_eq_true rfl) ?_
  intro p e s m below meth c ls C hr hlk hS hl
  have hl : lv_has ls 3 [(0, .ref (G.1 + a0)), (1, .int x1), (2, .int x2)] := hl
  obtain ⟨hx, hb, -⟩ := id C
  unfold Ton_sizeOrByte at h
  refine lv_iload_n hx hb dX9_sizeOrByte_0 rfl (lv_at hl 2 rfl) ?_
  refine lv_iconst (v := (-1)) hx hb dX9_sizeOrByte_1 (by decide) ?_
  refine lv_icmp_ne (tgt := 11) hx hb dX9_sizeOrByte_2 (by decide) (fun c_1 => ?_) (fun c_1 => ?_)
  · replace h := ifn c_1 h
    refine lv_iload_n hx hb dX9_sizeOrByte_11 rfl (lv_at hl 2 rfl) ?_
    refine lv_if_lt (tgt := 36) hx hb dX9_sizeOrByte_12 (by decide) (fun c_2 => ?_) (fun c_2 => ?_)
    · replace h := ifp c_2 h
      refine lv_iconst (v := (-1)) hx hb dX9_sizeOrByte_36 (by decide) ?_
      exact r_iret C hS hr hlk h dX9_sizeOrByte_37
    · replace h := ifn c_2 h
      refine lv_iload_n hx hb dX9_sizeOrByte_15 rfl (lv_at hl 2 rfl) ?_
      refine lv_aload_n hx hb dX9_sizeOrByte_16 rfl (lv_at hl 0 rfl) ?_
      refine lv_iload_n hx hb dX9_sizeOrByte_17 rfl (lv_at hl 1 rfl) ?_
      obtain ⟨⟨r_3, M_4⟩, hq_5, h⟩ := ob h
      try dsimp only at h
      refine r_thenI hS (r_runV C hS hl.1 cv_X9_76 k0 (c_X9_sizeOf l G F a0 x1 M k0 _ hq_5) ⟨by decide, by decide⟩ rfl rfl (Nat.le_of_ble_eq_true rfl) ⟨Nat.zero_le _, Nat.zero_le _⟩ dX9_sizeOrByte_18) (fun H locs hS => ?_)
      refine lv_icmp_ge (tgt := 36) hx hb dX9_sizeOrByte_21 (by decide) (fun c_6 => ?_) (fun c_6 => ?_)
      · replace h := ifp c_6 h
        refine lv_iconst (v := (-1)) hx hb dX9_sizeOrByte_36 (by decide) ?_
        exact r_iret C hS hr hlk h dX9_sizeOrByte_37
      · replace h := ifn c_6 h
        refine lv_aload_n hx hb dX9_sizeOrByte_24 rfl (lv_at hl 0 rfl) ?_
        refine r_gR C hS fl_X9_14 rfl k0 (zR_9_2 k0) dX9_sizeOrByte_25 ?_
        refine lv_iload_n hx hb dX9_sizeOrByte_28 rfl (lv_at hl 1 rfl) ?_
        refine lv_iload_n hx hb dX9_sizeOrByte_29 rfl (lv_at hl 2 rfl) ?_
        obtain ⟨⟨r_7, M_8⟩, hq_9, h⟩ := ob h
        try dsimp only at h
        refine r_thenI hS (r_runV C hS hl.1 cv_X9_80 (zKr_9_2 k0) (c_X6_byteAt l G F (a0 + 1) x1 x2 M_4 (zKr_9_2 k0) _ hq_9) ⟨by decide, by decide⟩ rfl rfl (Nat.le_of_ble_eq_true rfl) ⟨Nat.zero_le _, Nat.zero_le _⟩ dX9_sizeOrByte_30) (fun H locs hS => ?_)
        refine lv_goto (tgt := 37) hx hb dX9_sizeOrByte_33 (by decide) ?_
        exact r_iret C hS hr hlk h dX9_sizeOrByte_37
  · replace h := ifp c_1 h
    refine lv_aload_n hx hb dX9_sizeOrByte_5 rfl (lv_at hl 0 rfl) ?_
    refine lv_iload_n hx hb dX9_sizeOrByte_6 rfl (lv_at hl 1 rfl) ?_
    obtain ⟨⟨r_10, M_11⟩, hq_12, h⟩ := ob h
    try dsimp only at h
    refine r_thenI hS (r_runV C hS hl.1 cv_X9_76 k0 (c_X9_sizeOf l G F a0 x1 M k0 _ hq_12) ⟨by decide, by decide⟩ rfl rfl (Nat.le_of_ble_eq_true rfl) ⟨Nat.zero_le _, Nat.zero_le _⟩ dX9_sizeOrByte_7) (fun H locs hS => ?_)
    exact r_iret C hS hr hlk h dX9_sizeOrByte_10
set_option maxHeartbeats 4000000 in
set_option maxRecDepth 100000 in
theorem c_X9_countOf (l : Launch) (G : Gl) (F : Nat) (a0 : Nat) (x1 : Int32) (x2 : Int32) (M : zM) (k0 : zK a0 = 9) (q : Int32 × zM) (h : Ton_countOf F a0 x1 x2 M = some q) : Met l yX9_countOf (wsM yX9_countOf cX9_countOf 3 (some .int)) (rmM 2 51) (Pre G M [.ref (G.1 + a0), .int x1, .int x2]) (PoI G q) 0 0 (gA G) := by
  refine r_met (own := RX9) rfl (by decide) (Nat.le_of_ble_eq_true rfl) ?_
  intro p e s m below meth c ls C hr hlk hS hl
  have hl : lv_has ls 3 [(0, .ref (G.1 + a0)), (1, .int x1), (2, .int x2)] := hl
  obtain ⟨hx, hb, -⟩ := id C
  unfold Ton_countOf at h
  refine lv_aload_n hx hb dX9_countOf_0 rfl (lv_at hl 0 rfl) ?_
  refine lv_iload_n hx hb dX9_countOf_1 rfl (lv_at hl 2 rfl) ?_
  obtain ⟨⟨r_1, M_2⟩, hq_3, h⟩ := ob h
  try dsimp only at h
  refine r_thenI hS (r_runV C hS hl.1 cv_X9_72 k0 (c_X9_has l G F a0 x2 M k0 _ hq_3) ⟨by decide, by decide⟩ rfl rfl (Nat.le_of_ble_eq_true rfl) ⟨Nat.zero_le _, Nat.zero_le _⟩ dX9_countOf_2) (fun H locs hS => ?_)
  refine lv_if_eq (tgt := 20) hx hb dX9_countOf_5 (by decide) (fun c_4 => ?_) (fun c_4 => ?_)
  · replace h := ifp c_4 h
    refine lv_iconst (v := 0) hx hb dX9_countOf_20 (by decide) ?_
    exact r_iret C hS hr hlk h dX9_countOf_21
  · replace h := ifn c_4 h
    refine lv_aload_n hx hb dX9_countOf_8 rfl (lv_at hl 0 rfl) ?_
    refine r_gR C hS fl_X9_14 rfl k0 (zR_9_2 k0) dX9_countOf_9 ?_
    refine lv_iload_n hx hb dX9_countOf_12 rfl (lv_at hl 2 rfl) ?_
    refine lv_iload_n hx hb dX9_countOf_13 rfl (lv_at hl 1 rfl) ?_
    obtain ⟨⟨r_5, M_6⟩, hq_7, h⟩ := ob h
    try dsimp only at h
    refine r_thenI hS (r_runV C hS hl.1 cv_X9_84 (zKr_9_2 k0) (c_X6_count l G F (a0 + 1) x2 x1 M_2 (zKr_9_2 k0) _ hq_7) ⟨by decide, by decide⟩ rfl rfl (Nat.le_of_ble_eq_true rfl) ⟨Nat.zero_le _, Nat.zero_le _⟩ dX9_countOf_14) (fun H locs hS => ?_)
    refine lv_goto (tgt := 21) hx hb dX9_countOf_17 (by decide) ?_
    exact r_iret C hS hr hlk h dX9_countOf_21
set_option maxHeartbeats 4000000 in
set_option maxRecDepth 100000 in
theorem c_X9_isHonest (l : Launch) (G : Gl) (F : Nat) (a0 : Nat) (x1 : Int32) (M : zM) (k0 : zK a0 = 9) (q : Int32 × zM) (h : Ton_isHonest F a0 x1 M = some q) : Met l yX9_isHonest (wsM yX9_isHonest cX9_isHonest 2 (some .boolean)) (rmM 1 21) (Pre G M [.ref (G.1 + a0), .int x1]) (PoI G q) 0 0 (gA G) := by
  refine r_met (own := RX9) rfl (by decide) (Nat.le_of_ble_eq_true rfl) ?_
  intro p e s m below meth c ls C hr hlk hS hl
  have hl : lv_has ls 2 [(0, .ref (G.1 + a0)), (1, .int x1)] := hl
  obtain ⟨hx, hb, -⟩ := id C
  unfold Ton_isHonest at h
  refine lv_aload_n hx hb dX9_isHonest_0 rfl (lv_at hl 0 rfl) ?_
  refine lv_iload_n hx hb dX9_isHonest_1 rfl (lv_at hl 1 rfl) ?_
  obtain ⟨⟨r_1, M_2⟩, hq_3, h⟩ := ob h
  try dsimp only at h
  refine r_thenI hS (r_runV C hS hl.1 cv_X9_72 k0 (c_X9_has l G F a0 x1 M k0 _ hq_3) ⟨by decide, by decide⟩ rfl rfl (Nat.le_of_ble_eq_true rfl) ⟨Nat.zero_le _, Nat.zero_le _⟩ dX9_isHonest_2) (fun H locs hS => ?_)
  refine lv_if_eq (tgt := 22) hx hb dX9_isHonest_5 (by decide) (fun c_4 => ?_) (fun c_4 => ?_)
  · replace h := ifp c_4 h
    refine lv_iconst (v := 0) hx hb dX9_isHonest_22 (by decide) ?_
    exact r_zret C hS hr hlk h dX9_isHonest_23
  · replace h := ifn c_4 h
    refine lv_aload_n hx hb dX9_isHonest_8 rfl (lv_at hl 0 rfl) ?_
    refine r_gR C hS fl_X9_27 rfl k0 (zR_9_5 k0) dX9_isHonest_9 ?_
    refine lv_iload_n hx hb dX9_isHonest_12 rfl (lv_at hl 1 rfl) ?_
    obtain ⟨b_5, h⟩ := ift h
    refine r_iald C hS (zKr_9_5 k0) (zNr_9_5 k0) b_5 dX9_isHonest_13 ?_
    refine lv_iload_n hx hb dX9_isHonest_14 rfl (lv_at hl 1 rfl) ?_
    refine lv_icmp_ne (tgt := 22) hx hb dX9_isHonest_15 (by decide) (fun c_6 => ?_) (fun c_6 => ?_)
    · replace h := ifn c_6 h
      refine lv_iconst (v := 0) hx hb dX9_isHonest_22 (by decide) ?_
      exact r_zret C hS hr hlk h dX9_isHonest_23
    · replace h := ifp c_6 h
      refine lv_iconst (v := 1) hx hb dX9_isHonest_18 (by decide) ?_
      refine lv_goto (tgt := 23) hx hb dX9_isHonest_19 (by decide) ?_
      exact r_zret C hS hr hlk h dX9_isHonest_23
def E_Ton_honestCount_4 (G : Gl) (p : Program) (l : Launch) (e : Env) (s : State) (m : MethodId) (args : Array Value) (below : List Frame) (meth : Method) (c : Code) (Q : State → Prop) (a0 : Nat) : Nat → (Int32 × Int32 × zM) → Prop := fun k (x1, x2, M) => match k with
  | 0 => ∀ (H : Heap) (locs : List Loc) (ls : Array Slot), St G M s H locs → lv_has ls 3 [(0, .ref (G.1 + a0)), (1, .int x1), (2, .int x2)] → W p l e (rmM 2 42) s m args below meth c H locs 0 0 Q (F0 m 4 ls [])
  | 1 => ∀ (H : Heap) (locs : List Loc) (ls : Array Slot), St G M s H locs → lv_has ls 3 [(1, .int x1)] → W p l e (rmM 2 42) s m args below meth c H locs 0 0 Q (F0 m 27 ls [])
  | _ => True
set_option maxHeartbeats 4000000 in
set_option maxRecDepth 100000 in
theorem w_Ton_honestCount_B4 {G : Gl} {p : Program} {l : Launch} {e : Env} {s : State} {m : MethodId} {args : Array Value} {below : List Frame} {meth : Method} {c : Code} {Q : State → Prop} (C : Cx G cX9_honestCount 3 RX9 p s m args c) (a0 : Nat) (k0 : zK a0 = 9) (F : Nat) : ∀ (σ : (Int32 × Int32 × zM)) (q : Nat × (Int32 × Int32 × zM)), Ton_honestCount_B4 F a0 σ = some q → (E_Ton_honestCount_4 G p l e s m args below meth c Q a0) q.1 q.2 → (E_Ton_honestCount_4 G p l e s m args below meth c Q a0) 0 σ := by
  intro (x1, x2, M) q h hE H locs ls hS hl
  obtain ⟨hx, hb, -⟩ := id C
  unfold Ton_honestCount_B4 at h
  try dsimp only at h
  refine lv_iload_n hx hb dX9_honestCount_4 rfl (lv_at hl 2 rfl) ?_
  refine lv_bipush (v := 60) hx hb dX9_honestCount_5 (by decide) ?_
  refine lv_icmp_gt (tgt := 27) hx hb dX9_honestCount_7 (by decide) (fun c_1 => ?_) (fun c_1 => ?_)
  · replace h := ifp c_1 h
    obtain rfl := Option.some.inj h
    exact hE _ _ _ hS (lv_sub hl [1] rfl)
  · replace h := ifn c_1 h
    refine lv_aload_n hx hb dX9_honestCount_10 rfl (lv_at hl 0 rfl) ?_
    refine lv_iload_n hx hb dX9_honestCount_11 rfl (lv_at hl 2 rfl) ?_
    obtain ⟨⟨r_2, M_3⟩, hq_4, h⟩ := ob h
    try dsimp only at h
    refine r_thenI hS (r_runV C hS hl.1 cv_X9_87 k0 (c_X9_isHonest l G F a0 x2 M k0 _ hq_4) ⟨by decide, by decide⟩ rfl rfl (Nat.le_of_ble_eq_true rfl) ⟨Nat.zero_le _, Nat.zero_le _⟩ dX9_honestCount_12) (fun H locs hS => ?_)
    refine lv_if_eq (tgt := 21) hx hb dX9_honestCount_15 (by decide) (fun c_5 => ?_) (fun c_5 => ?_)
    · replace h := ifp c_5 h
      obtain ⟨x2_6, e_7, h⟩ := olt h
      refine lv_iinc (v := x2_6) (lv' := [(2, .int x2_6), (0, .ref (G.1 + a0)), (1, .int x1)]) hx hb dX9_honestCount_21 hl (k := 2) rfl (by rw [e_7]; rfl) (by decide) rfl (fun ls hl => ?_)
      refine lv_goto (tgt := 4) hx hb dX9_honestCount_24 (by decide) ?_
      obtain rfl := Option.some.inj h
      exact hE _ _ _ hS (lv_sub hl [1, 2, 0] rfl)
    · replace h := ifn c_5 h
      obtain ⟨x1_8, e_9, h⟩ := olt h
      refine lv_iinc (v := x1_8) (lv' := [(1, .int x1_8), (0, .ref (G.1 + a0)), (2, .int x2)]) hx hb dX9_honestCount_18 hl (k := 1) rfl (by rw [e_9]; rfl) (by decide) rfl (fun ls hl => ?_)
      obtain ⟨x2_10, e_11, h⟩ := olt h
      refine lv_iinc (v := x2_10) (lv' := [(2, .int x2_10), (1, .int x1_8), (0, .ref (G.1 + a0))]) hx hb dX9_honestCount_21 hl (k := 2) rfl (by rw [e_11]; rfl) (by decide) rfl (fun ls hl => ?_)
      refine lv_goto (tgt := 4) hx hb dX9_honestCount_24 (by decide) ?_
      obtain rfl := Option.some.inj h
      exact hE _ _ _ hS (lv_sub hl [2, 1, 0] rfl)
set_option maxHeartbeats 4000000 in
set_option maxRecDepth 100000 in
theorem c_X9_honestCount (l : Launch) (G : Gl) (F : Nat) (a0 : Nat) (M : zM) (k0 : zK a0 = 9) (q : Int32 × zM) (h : Ton_honestCount F a0 M = some q) : Met l yX9_honestCount (wsM yX9_honestCount cX9_honestCount 3 (some .int)) (rmM 2 42) (Pre G M [.ref (G.1 + a0)]) (PoI G q) 0 0 (gA G) := by
  refine r_met (own := RX9) rfl (by decide) (Nat.le_of_ble_eq_true rfl) ?_
  intro p e s m below meth c ls C hr hlk hS hl
  have hl : lv_has ls 3 [(0, .ref (G.1 + a0))] := hl
  obtain ⟨hx, hb, -⟩ := id C
  unfold Ton_honestCount at h
  refine lv_iconst (v := 0) hx hb dX9_honestCount_0 (by decide) ?_
  refine lv_istore_n (lv' := [(1, .int 0), (0, .ref (G.1 + a0))]) hx hb dX9_honestCount_1 rfl hl (by decide) rfl (fun ls hl => ?_)
  refine lv_iconst (v := 0) hx hb dX9_honestCount_2 (by decide) ?_
  refine lv_istore_n (lv' := [(2, .int 0), (1, .int 0), (0, .ref (G.1 + a0))]) hx hb dX9_honestCount_3 rfl hl (by decide) rfl (fun ls hl => ?_)
  obtain ⟨⟨k_15, x1_12, x2_13, M_14⟩, hq_16, h⟩ := ob h
  try dsimp only at h
  refine loopW (E := (E_Ton_honestCount_4 G p l e s m _ below meth c _ a0)) (w_Ton_honestCount_B4 C a0 k0 F) F _ _ hq_16 ?_ _ _ _ hS (lv_sub hl [2, 1, 0] rfl)
  by_cases ek_17 : k_15 = 1
  · replace h := ifp ek_17 h
    subst ek_17
    intro H locs ls hS hl
    refine lv_iload_n hx hb dX9_honestCount_27 rfl (lv_at hl 0 rfl) ?_
    exact r_iret C hS hr hlk h dX9_honestCount_28
  · replace h := ifn ek_17 h
    cases h
def E_Ton_honestAt_4 (G : Gl) (p : Program) (l : Launch) (e : Env) (s : State) (m : MethodId) (args : Array Value) (below : List Frame) (meth : Method) (c : Code) (Q : State → Prop) (a0 : Nat) (x1 : Int32) : Nat → (Int32 × Int32 × zM) → Prop := fun k (x2, x3, M) => match k with
  | 0 => ∀ (H : Heap) (locs : List Loc) (ls : Array Slot), St G M s H locs → lv_has ls 4 [(0, .ref (G.1 + a0)), (1, .int x1), (2, .int x2), (3, .int x3)] → W p l e (rmM 2 42) s m args below meth c H locs 0 0 Q (F0 m 4 ls [])
  | 1 => ∀ (H : Heap) (locs : List Loc) (ls : Array Slot), St G M s H locs → lv_has ls 4 [(3, .int x3)] → W p l e (rmM 2 42) s m args below meth c H locs 0 0 Q (F0 m 26 ls [])
  | 2 => ∀ (H : Heap) (locs : List Loc) (ls : Array Slot), St G M s H locs → lv_has ls 4 [] → W p l e (rmM 2 42) s m args below meth c H locs 0 0 Q (F0 m 34 ls [])
  | _ => True
set_option maxHeartbeats 4000000 in
set_option maxRecDepth 100000 in
theorem w_Ton_honestAt_B4 {G : Gl} {p : Program} {l : Launch} {e : Env} {s : State} {m : MethodId} {args : Array Value} {below : List Frame} {meth : Method} {c : Code} {Q : State → Prop} (C : Cx G cX9_honestAt 4 RX9 p s m args c) (a0 : Nat) (x1 : Int32) (k0 : zK a0 = 9) (F : Nat) : ∀ (σ : (Int32 × Int32 × zM)) (q : Nat × (Int32 × Int32 × zM)), Ton_honestAt_B4 F a0 x1 σ = some q → (E_Ton_honestAt_4 G p l e s m args below meth c Q a0 x1) q.1 q.2 → (E_Ton_honestAt_4 G p l e s m args below meth c Q a0 x1) 0 σ := by
  intro (x2, x3, M) q h hE H locs ls hS hl
  obtain ⟨hx, hb, -⟩ := id C
  unfold Ton_honestAt_B4 at h
  try dsimp only at h
  refine lv_iload_n hx hb dX9_honestAt_4 rfl (lv_at hl 3 rfl) ?_
  refine lv_bipush (v := 60) hx hb dX9_honestAt_5 (by decide) ?_
  refine lv_icmp_gt (tgt := 34) hx hb dX9_honestAt_7 (by decide) (fun c_1 => ?_) (fun c_1 => ?_)
  · replace h := ifp c_1 h
    obtain rfl := Option.some.inj h
    exact hE _ _ _ hS (lv_sub hl [] rfl)
  · replace h := ifn c_1 h
    refine lv_aload_n hx hb dX9_honestAt_10 rfl (lv_at hl 0 rfl) ?_
    refine lv_iload_n hx hb dX9_honestAt_11 rfl (lv_at hl 3 rfl) ?_
    obtain ⟨⟨r_2, M_3⟩, hq_4, h⟩ := ob h
    try dsimp only at h
    refine r_thenI hS (r_runV C hS hl.1 cv_X9_87 k0 (c_X9_isHonest l G F a0 x3 M k0 _ hq_4) ⟨by decide, by decide⟩ rfl rfl (Nat.le_of_ble_eq_true rfl) ⟨Nat.zero_le _, Nat.zero_le _⟩ dX9_honestAt_12) (fun H locs hS => ?_)
    refine lv_if_eq (tgt := 28) hx hb dX9_honestAt_15 (by decide) (fun c_5 => ?_) (fun c_5 => ?_)
    · replace h := ifp c_5 h
      obtain ⟨x3_6, e_7, h⟩ := olt h
      refine lv_iinc (v := x3_6) (lv' := [(3, .int x3_6), (0, .ref (G.1 + a0)), (1, .int x1), (2, .int x2)]) hx hb dX9_honestAt_28 hl (k := 3) rfl (by rw [e_7]; rfl) (by decide) rfl (fun ls hl => ?_)
      refine lv_goto (tgt := 4) hx hb dX9_honestAt_31 (by decide) ?_
      obtain rfl := Option.some.inj h
      exact hE _ _ _ hS (lv_sub hl [1, 2, 3, 0] rfl)
    · replace h := ifn c_5 h
      refine lv_iload_n hx hb dX9_honestAt_18 rfl (lv_at hl 2 rfl) ?_
      obtain ⟨x2_8, e_9, h⟩ := olt h
      refine lv_iinc (v := x2_8) (lv' := [(2, .int x2_8), (0, .ref (G.1 + a0)), (1, .int x1), (3, .int x3)]) hx hb dX9_honestAt_19 hl (k := 2) rfl (by rw [e_9]; rfl) (by decide) rfl (fun ls hl => ?_)
      refine lv_iload_n hx hb dX9_honestAt_22 rfl (lv_at hl 2 rfl) ?_
      refine lv_icmp_ne (tgt := 28) hx hb dX9_honestAt_23 (by decide) (fun c_10 => ?_) (fun c_10 => ?_)
      · replace h := ifn c_10 h
        obtain ⟨x3_11, e_12, h⟩ := olt h
        refine lv_iinc (v := x3_11) (lv' := [(3, .int x3_11), (2, .int x2_8), (0, .ref (G.1 + a0)), (1, .int x1)]) hx hb dX9_honestAt_28 hl (k := 3) rfl (by rw [e_12]; rfl) (by decide) rfl (fun ls hl => ?_)
        refine lv_goto (tgt := 4) hx hb dX9_honestAt_31 (by decide) ?_
        obtain rfl := Option.some.inj h
        exact hE _ _ _ hS (lv_sub hl [2, 3, 1, 0] rfl)
      · replace h := ifp c_10 h
        obtain rfl := Option.some.inj h
        exact hE _ _ _ hS (lv_sub hl [3] rfl)
set_option maxHeartbeats 4000000 in
set_option maxRecDepth 100000 in
theorem c_X9_honestAt (l : Launch) (G : Gl) (F : Nat) (a0 : Nat) (x1 : Int32) (M : zM) (k0 : zK a0 = 9) (q : Int32 × zM) (h : Ton_honestAt F a0 x1 M = some q) : Met l yX9_honestAt (wsM yX9_honestAt cX9_honestAt 4 (some .int)) (rmM 2 42) (Pre G M [.ref (G.1 + a0), .int x1]) (PoI G q) 0 0 (gA G) := by
  refine r_met (own := RX9) rfl (by decide) (Nat.le_of_ble_eq_true rfl) ?_
  intro p e s m below meth c ls C hr hlk hS hl
  have hl : lv_has ls 4 [(0, .ref (G.1 + a0)), (1, .int x1)] := hl
  obtain ⟨hx, hb, -⟩ := id C
  unfold Ton_honestAt at h
  refine lv_iconst (v := 0) hx hb dX9_honestAt_0 (by decide) ?_
  refine lv_istore_n (lv' := [(2, .int 0), (0, .ref (G.1 + a0)), (1, .int x1)]) hx hb dX9_honestAt_1 rfl hl (by decide) rfl (fun ls hl => ?_)
  refine lv_iconst (v := 0) hx hb dX9_honestAt_2 (by decide) ?_
  refine lv_istore_n (lv' := [(3, .int 0), (2, .int 0), (0, .ref (G.1 + a0)), (1, .int x1)]) hx hb dX9_honestAt_3 rfl hl (by decide) rfl (fun ls hl => ?_)
  obtain ⟨⟨k_16, x2_13, x3_14, M_15⟩, hq_17, h⟩ := ob h
  try dsimp only at h
  refine loopW (E := (E_Ton_honestAt_4 G p l e s m _ below meth c _ a0 x1)) (w_Ton_honestAt_B4 C a0 x1 k0 F) F _ _ hq_17 ?_ _ _ _ hS (lv_sub hl [2, 3, 1, 0] rfl)
  by_cases ek_19 : k_16 = 1
  · replace h := ifp ek_19 h
    subst ek_19
    intro H locs ls hS hl
    refine lv_iload_n hx hb dX9_honestAt_26 rfl (lv_at hl 0 rfl) ?_
    exact r_iret C hS hr hlk h dX9_honestAt_27
  · replace h := ifn ek_19 h
    by_cases ek_18 : k_16 = 2
    · replace h := ifp ek_18 h
      subst ek_18
      intro H locs ls hS hl
      refine lv_iconst (v := (-1)) hx hb dX9_honestAt_34 (by decide) ?_
      exact r_iret C hS hr hlk h dX9_honestAt_35
    · replace h := ifn ek_18 h
      cases h
set_option maxHeartbeats 4000000 in
set_option maxRecDepth 100000 in
theorem w_Ton_isReadAs_J23 {G : Gl} {p : Program} {l : Launch} {e : Env} {s : State} {m : MethodId} {args : Array Value} {below : List Frame} {meth : Method} {c : Code} (C : Cx G cX9_isReadAs 4 RX9 p s m args c) (hr : meth.sig.returnType = (some .boolean)) (hlk : meth.locks = false) (F : Nat) (a1 : Nat) (x3 : Int32) (b0 : Nat) (M : zM) (k1 : zK a1 = 6) (j0 : zK b0 = 6) (q : Int32 × zM) (h : Ton_isReadAs_J23 F a1 x3 b0 M = some q) (H : Heap) (locs : List Loc) (ls : Array Slot) (hS : St G M s H locs) (hl : lv_has ls 4 [(1, .ref (G.1 + a1)), (3, .int x3)]) : W p l e (rmM 2 48) s m args below meth c H locs 0 0 (MQ below (PoI G q) args s 0 0 (gA G)) (F0 m 23 ls [.ref (G.1 + b0)]) := by
  obtain ⟨hx, hb, -⟩ := id C
  unfold Ton_isReadAs_J23 at h
  refine lv_iload_n hx hb dX9_isReadAs_23 rfl (lv_at hl 1 rfl) ?_
  refine lv_aload_n hx hb dX9_isReadAs_24 rfl (lv_at hl 0 rfl) ?_
  refine lv_iconst (v := 0) hx hb dX9_isReadAs_25 (by decide) ?_
  obtain ⟨⟨r_6, M_7⟩, hq_8, h⟩ := ob h
  try dsimp only at h
  refine r_thenI hS (r_runV C hS hl.1 cv_X9_90 j0 (c_X6_compare l G F b0 x3 a1 0 M j0 k1 _ hq_8) ⟨by decide, by decide⟩ rfl rfl (Nat.le_of_ble_eq_true rfl) ⟨Nat.zero_le _, Nat.zero_le _⟩ dX9_isReadAs_26) (fun H locs hS => ?_)
  refine lv_if_ne (tgt := 36) hx hb dX9_isReadAs_29 (by decide) (fun c_9 => ?_) (fun c_9 => ?_)
  · replace h := ifn c_9 h
    refine lv_iconst (v := 0) hx hb dX9_isReadAs_36 (by decide) ?_
    exact r_zret C hS hr hlk h dX9_isReadAs_37
  · replace h := ifp c_9 h
    refine lv_iconst (v := 1) hx hb dX9_isReadAs_32 (by decide) ?_
    refine lv_goto (tgt := 37) hx hb dX9_isReadAs_33 (by decide) ?_
    exact r_zret C hS hr hlk h dX9_isReadAs_37
set_option maxHeartbeats 4000000 in
set_option maxRecDepth 100000 in
theorem c_X9_isReadAs (l : Launch) (G : Gl) (F : Nat) (a0 : Nat) (a1 : Nat) (x2 : Int32) (x3 : Int32) (M : zM) (k0 : zK a0 = 9) (k1 : zK a1 = 6) (q : Int32 × zM) (h : Ton_isReadAs F a0 a1 x2 x3 M = some q) : Met l yX9_isReadAs (wsM yX9_isReadAs cX9_isReadAs 4 (some .boolean)) (rmM 2 48) (Pre G M [.ref (G.1 + a0), .ref (G.1 + a1), .int x2, .int x3]) (PoI G q) 0 0 (gA G) := by
  refine r_met (own := RX9) rfl (by decide) (Nat.le_of_ble_eq_true rfl) ?_
  intro p e s m below meth c ls C hr hlk hS hl
  have hl : lv_has ls 4 [(0, .ref (G.1 + a0)), (1, .ref (G.1 + a1)), (2, .int x2), (3, .int x3)] := hl
  obtain ⟨hx, hb, -⟩ := id C
  unfold Ton_isReadAs at h
  refine lv_aload_n hx hb dX9_isReadAs_0 rfl (lv_at hl 0 rfl) ?_
  refine lv_iload_n hx hb dX9_isReadAs_1 rfl (lv_at hl 3 rfl) ?_
  obtain ⟨⟨r_1, M_2⟩, hq_3, h⟩ := ob h
  try dsimp only at h
  refine r_thenI hS (r_runV C hS hl.1 cv_X9_72 k0 (c_X9_has l G F a0 x3 M k0 _ hq_3) ⟨by decide, by decide⟩ rfl rfl (Nat.le_of_ble_eq_true rfl) ⟨Nat.zero_le _, Nat.zero_le _⟩ dX9_isReadAs_2) (fun H locs hS => ?_)
  refine lv_if_eq (tgt := 36) hx hb dX9_isReadAs_5 (by decide) (fun c_4 => ?_) (fun c_4 => ?_)
  · replace h := ifp c_4 h
    refine lv_iconst (v := 0) hx hb dX9_isReadAs_36 (by decide) ?_
    exact r_zret C hS hr hlk h dX9_isReadAs_37
  · replace h := ifn c_4 h
    refine lv_iload_n hx hb dX9_isReadAs_8 rfl (lv_at hl 2 rfl) ?_
    refine lv_if_eq (tgt := 19) hx hb dX9_isReadAs_9 (by decide) (fun c_5 => ?_) (fun c_5 => ?_)
    · replace h := ifp c_5 h
      refine lv_aload_n hx hb dX9_isReadAs_19 rfl (lv_at hl 0 rfl) ?_
      refine r_gR C hS fl_X9_14 rfl k0 (zR_9_2 k0) dX9_isReadAs_20 ?_
      exact w_Ton_isReadAs_J23 C hr hlk F a1 x3 (a0 + 1) M_2 k1 (zKr_9_2 k0) q h _ _ _ hS (lv_sub hl [1, 3] rfl)
    · replace h := ifn c_5 h
      refine lv_aload_n hx hb dX9_isReadAs_12 rfl (lv_at hl 0 rfl) ?_
      refine r_gR C hS fl_X9_20 rfl k0 (zR_9_3 k0) dX9_isReadAs_13 ?_
      refine lv_goto (tgt := 23) hx hb dX9_isReadAs_16 (by decide) ?_
      exact w_Ton_isReadAs_J23 C hr hlk F a1 x3 (a0 + 3) M_2 k1 (zKr_9_3 k0) q h _ _ _ hS (lv_sub hl [1, 3] rfl)
def E_Ton_readings_5 (G : Gl) (p : Program) (l : Launch) (e : Env) (s : State) (m : MethodId) (args : Array Value) (below : List Frame) (meth : Method) (c : Code) (Q : State → Prop) (a0 : Nat) (a1 : Nat) (x2 : Int32) : Nat → (Int32 × Int32 × zM) → Prop := fun k (x3, x4, M) => match k with
  | 0 => ∀ (H : Heap) (locs : List Loc) (ls : Array Slot), St G M s H locs → lv_has ls 5 [(0, .ref (G.1 + a0)), (1, .ref (G.1 + a1)), (2, .int x2), (3, .int x3), (4, .int x4)] → W p l e (rmM 3 71) s m args below meth c H locs 0 0 Q (F0 m 5 ls [])
  | 1 => ∀ (H : Heap) (locs : List Loc) (ls : Array Slot), St G M s H locs → lv_has ls 5 [(3, .int x3)] → W p l e (rmM 3 71) s m args below meth c H locs 0 0 Q (F0 m 33 ls [])
  | _ => True
set_option maxHeartbeats 4000000 in
set_option maxRecDepth 100000 in
theorem w_Ton_readings_B5 {G : Gl} {p : Program} {l : Launch} {e : Env} {s : State} {m : MethodId} {args : Array Value} {below : List Frame} {meth : Method} {c : Code} {Q : State → Prop} (C : Cx G cX9_readings 5 RX9 p s m args c) (a0 : Nat) (a1 : Nat) (x2 : Int32) (k0 : zK a0 = 9) (k1 : zK a1 = 6) (F : Nat) : ∀ (σ : (Int32 × Int32 × zM)) (q : Nat × (Int32 × Int32 × zM)), Ton_readings_B5 F a0 a1 x2 σ = some q → (E_Ton_readings_5 G p l e s m args below meth c Q a0 a1 x2) q.1 q.2 → (E_Ton_readings_5 G p l e s m args below meth c Q a0 a1 x2) 0 σ := by
  intro (x3, x4, M) q h hE H locs ls hS hl
  obtain ⟨hx, hb, -⟩ := id C
  unfold Ton_readings_B5 at h
  try dsimp only at h
  refine lv_iload hx hb dX9_readings_5 (lv_at hl 4 rfl) ?_
  refine lv_sipush (v := 1000) hx hb dX9_readings_7 (by decide) ?_
  refine lv_icmp_ge (tgt := 33) hx hb dX9_readings_10 (by decide) (fun c_1 => ?_) (fun c_1 => ?_)
  · replace h := ifp c_1 h
    obtain rfl := Option.some.inj h
    exact hE _ _ _ hS (lv_sub hl [3] rfl)
  · replace h := ifn c_1 h
    refine lv_aload_n hx hb dX9_readings_13 rfl (lv_at hl 0 rfl) ?_
    refine lv_aload_n hx hb dX9_readings_14 rfl (lv_at hl 1 rfl) ?_
    refine lv_iload_n hx hb dX9_readings_15 rfl (lv_at hl 2 rfl) ?_
    refine lv_iload hx hb dX9_readings_16 (lv_at hl 4 rfl) ?_
    obtain ⟨⟨r_2, M_3⟩, hq_4, h⟩ := ob h
    try dsimp only at h
    refine r_thenI hS (r_runV C hS hl.1 cv_X9_94 k0 (c_X9_isReadAs l G F a0 a1 x2 x4 M k0 k1 _ hq_4) ⟨by decide, by decide⟩ rfl rfl (Nat.le_of_ble_eq_true rfl) ⟨Nat.zero_le _, Nat.zero_le _⟩ dX9_readings_18) (fun H locs hS => ?_)
    refine lv_if_eq (tgt := 27) hx hb dX9_readings_21 (by decide) (fun c_5 => ?_) (fun c_5 => ?_)
    · replace h := ifp c_5 h
      obtain ⟨x4_6, e_7, h⟩ := olt h
      refine lv_iinc (v := x4_6) (lv' := [(4, .int x4_6), (0, .ref (G.1 + a0)), (1, .ref (G.1 + a1)), (2, .int x2), (3, .int x3)]) hx hb dX9_readings_27 hl (k := 4) rfl (by rw [e_7]; rfl) (by decide) rfl (fun ls hl => ?_)
      refine lv_goto (tgt := 5) hx hb dX9_readings_30 (by decide) ?_
      obtain rfl := Option.some.inj h
      exact hE _ _ _ hS (lv_sub hl [1, 2, 3, 4, 0] rfl)
    · replace h := ifn c_5 h
      obtain ⟨x3_8, e_9, h⟩ := olt h
      refine lv_iinc (v := x3_8) (lv' := [(3, .int x3_8), (0, .ref (G.1 + a0)), (1, .ref (G.1 + a1)), (2, .int x2), (4, .int x4)]) hx hb dX9_readings_24 hl (k := 3) rfl (by rw [e_9]; rfl) (by decide) rfl (fun ls hl => ?_)
      obtain ⟨x4_10, e_11, h⟩ := olt h
      refine lv_iinc (v := x4_10) (lv' := [(4, .int x4_10), (3, .int x3_8), (0, .ref (G.1 + a0)), (1, .ref (G.1 + a1)), (2, .int x2)]) hx hb dX9_readings_27 hl (k := 4) rfl (by rw [e_11]; rfl) (by decide) rfl (fun ls hl => ?_)
      refine lv_goto (tgt := 5) hx hb dX9_readings_30 (by decide) ?_
      obtain rfl := Option.some.inj h
      exact hE _ _ _ hS (lv_sub hl [2, 3, 4, 1, 0] rfl)
set_option maxHeartbeats 4000000 in
set_option maxRecDepth 100000 in
theorem c_X9_readings (l : Launch) (G : Gl) (F : Nat) (a0 : Nat) (a1 : Nat) (x2 : Int32) (M : zM) (k0 : zK a0 = 9) (k1 : zK a1 = 6) (q : Int32 × zM) (h : Ton_readings F a0 a1 x2 M = some q) : Met l yX9_readings (wsM yX9_readings cX9_readings 5 (some .int)) (rmM 3 71) (Pre G M [.ref (G.1 + a0), .ref (G.1 + a1), .int x2]) (PoI G q) 0 0 (gA G) := by
  refine r_met (own := RX9) rfl (by decide) (Nat.le_of_ble_eq_true rfl) ?_
  intro p e s m below meth c ls C hr hlk hS hl
  have hl : lv_has ls 5 [(0, .ref (G.1 + a0)), (1, .ref (G.1 + a1)), (2, .int x2)] := hl
  obtain ⟨hx, hb, -⟩ := id C
  unfold Ton_readings at h
  refine lv_iconst (v := 0) hx hb dX9_readings_0 (by decide) ?_
  refine lv_istore_n (lv' := [(3, .int 0), (0, .ref (G.1 + a0)), (1, .ref (G.1 + a1)), (2, .int x2)]) hx hb dX9_readings_1 rfl hl (by decide) rfl (fun ls hl => ?_)
  refine lv_iconst (v := 0) hx hb dX9_readings_2 (by decide) ?_
  refine lv_istore (lv' := [(4, .int 0), (3, .int 0), (0, .ref (G.1 + a0)), (1, .ref (G.1 + a1)), (2, .int x2)]) hx hb dX9_readings_3 hl (by decide) rfl (fun ls hl => ?_)
  obtain ⟨⟨k_15, x3_12, x4_13, M_14⟩, hq_16, h⟩ := ob h
  try dsimp only at h
  refine loopW (E := (E_Ton_readings_5 G p l e s m _ below meth c _ a0 a1 x2)) (w_Ton_readings_B5 C a0 a1 x2 k0 k1 F) F _ _ hq_16 ?_ _ _ _ hS (lv_sub hl [2, 3, 4, 1, 0] rfl)
  by_cases ek_17 : k_15 = 1
  · replace h := ifp ek_17 h
    subst ek_17
    intro H locs ls hS hl
    refine lv_iload_n hx hb dX9_readings_33 rfl (lv_at hl 0 rfl) ?_
    exact r_iret C hS hr hlk h dX9_readings_34
  · replace h := ifn ek_17 h
    cases h
def E_Ton_reading_6 (G : Gl) (p : Program) (l : Launch) (e : Env) (s : State) (m : MethodId) (args : Array Value) (below : List Frame) (meth : Method) (c : Code) (Q : State → Prop) (a0 : Nat) (a1 : Nat) (x2 : Int32) (x3 : Int32) : Nat → (Int32 × Int32 × zM) → Prop := fun k (x4, x5, M) => match k with
  | 0 => ∀ (H : Heap) (locs : List Loc) (ls : Array Slot), St G M s H locs → lv_has ls 6 [(0, .ref (G.1 + a0)), (1, .ref (G.1 + a1)), (2, .int x2), (3, .int x3), (4, .int x4), (5, .int x5)] → W p l e (rmM 3 71) s m args below meth c H locs 0 0 Q (F0 m 6 ls [])
  | 1 => ∀ (H : Heap) (locs : List Loc) (ls : Array Slot), St G M s H locs → lv_has ls 6 [(5, .int x5)] → W p l e (rmM 3 71) s m args below meth c H locs 0 0 Q (F0 m 34 ls [])
  | 2 => ∀ (H : Heap) (locs : List Loc) (ls : Array Slot), St G M s H locs → lv_has ls 6 [] → W p l e (rmM 3 71) s m args below meth c H locs 0 0 Q (F0 m 43 ls [])
  | _ => True
set_option maxHeartbeats 4000000 in
set_option maxRecDepth 100000 in
theorem w_Ton_reading_B6 {G : Gl} {p : Program} {l : Launch} {e : Env} {s : State} {m : MethodId} {args : Array Value} {below : List Frame} {meth : Method} {c : Code} {Q : State → Prop} (C : Cx G cX9_reading 6 RX9 p s m args c) (a0 : Nat) (a1 : Nat) (x2 : Int32) (x3 : Int32) (k0 : zK a0 = 9) (k1 : zK a1 = 6) (F : Nat) : ∀ (σ : (Int32 × Int32 × zM)) (q : Nat × (Int32 × Int32 × zM)), Ton_reading_B6 F a0 a1 x2 x3 σ = some q → (E_Ton_reading_6 G p l e s m args below meth c Q a0 a1 x2 x3) q.1 q.2 → (E_Ton_reading_6 G p l e s m args below meth c Q a0 a1 x2 x3) 0 σ := by
  intro (x4, x5, M) q h hE H locs ls hS hl
  obtain ⟨hx, hb, -⟩ := id C
  unfold Ton_reading_B6 at h
  try dsimp only at h
  refine lv_iload hx hb dX9_reading_6 (lv_at hl 5 rfl) ?_
  refine lv_sipush (v := 1000) hx hb dX9_reading_8 (by decide) ?_
  refine lv_icmp_ge (tgt := 43) hx hb dX9_reading_11 (by decide) (fun c_1 => ?_) (fun c_1 => ?_)
  · replace h := ifp c_1 h
    obtain rfl := Option.some.inj h
    exact hE _ _ _ hS (lv_sub hl [] rfl)
  · replace h := ifn c_1 h
    refine lv_aload_n hx hb dX9_reading_14 rfl (lv_at hl 0 rfl) ?_
    refine lv_aload_n hx hb dX9_reading_15 rfl (lv_at hl 1 rfl) ?_
    refine lv_iload_n hx hb dX9_reading_16 rfl (lv_at hl 2 rfl) ?_
    refine lv_iload hx hb dX9_reading_17 (lv_at hl 5 rfl) ?_
    obtain ⟨⟨r_2, M_3⟩, hq_4, h⟩ := ob h
    try dsimp only at h
    refine r_thenI hS (r_runV C hS hl.1 cv_X9_94 k0 (c_X9_isReadAs l G F a0 a1 x2 x5 M k0 k1 _ hq_4) ⟨by decide, by decide⟩ rfl rfl (Nat.le_of_ble_eq_true rfl) ⟨Nat.zero_le _, Nat.zero_le _⟩ dX9_reading_19) (fun H locs hS => ?_)
    refine lv_if_eq (tgt := 37) hx hb dX9_reading_22 (by decide) (fun c_5 => ?_) (fun c_5 => ?_)
    · replace h := ifp c_5 h
      obtain ⟨x5_6, e_7, h⟩ := olt h
      refine lv_iinc (v := x5_6) (lv' := [(5, .int x5_6), (0, .ref (G.1 + a0)), (1, .ref (G.1 + a1)), (2, .int x2), (3, .int x3), (4, .int x4)]) hx hb dX9_reading_37 hl (k := 5) rfl (by rw [e_7]; rfl) (by decide) rfl (fun ls hl => ?_)
      refine lv_goto (tgt := 6) hx hb dX9_reading_40 (by decide) ?_
      obtain rfl := Option.some.inj h
      exact hE _ _ _ hS (lv_sub hl [1, 2, 3, 4, 5, 0] rfl)
    · replace h := ifn c_5 h
      refine lv_iload hx hb dX9_reading_25 (lv_at hl 4 rfl) ?_
      obtain ⟨x4_8, e_9, h⟩ := olt h
      refine lv_iinc (v := x4_8) (lv' := [(4, .int x4_8), (0, .ref (G.1 + a0)), (1, .ref (G.1 + a1)), (2, .int x2), (3, .int x3), (5, .int x5)]) hx hb dX9_reading_27 hl (k := 4) rfl (by rw [e_9]; rfl) (by decide) rfl (fun ls hl => ?_)
      refine lv_iload_n hx hb dX9_reading_30 rfl (lv_at hl 4 rfl) ?_
      refine lv_icmp_ne (tgt := 37) hx hb dX9_reading_31 (by decide) (fun c_10 => ?_) (fun c_10 => ?_)
      · replace h := ifn c_10 h
        obtain ⟨x5_11, e_12, h⟩ := olt h
        refine lv_iinc (v := x5_11) (lv' := [(5, .int x5_11), (4, .int x4_8), (0, .ref (G.1 + a0)), (1, .ref (G.1 + a1)), (2, .int x2), (3, .int x3)]) hx hb dX9_reading_37 hl (k := 5) rfl (by rw [e_12]; rfl) (by decide) rfl (fun ls hl => ?_)
        refine lv_goto (tgt := 6) hx hb dX9_reading_40 (by decide) ?_
        obtain rfl := Option.some.inj h
        exact hE _ _ _ hS (lv_sub hl [2, 3, 4, 5, 1, 0] rfl)
      · replace h := ifp c_10 h
        obtain rfl := Option.some.inj h
        exact hE _ _ _ hS (lv_sub hl [5] rfl)
set_option maxHeartbeats 4000000 in
set_option maxRecDepth 100000 in
theorem c_X9_reading (l : Launch) (G : Gl) (F : Nat) (a0 : Nat) (a1 : Nat) (x2 : Int32) (x3 : Int32) (M : zM) (k0 : zK a0 = 9) (k1 : zK a1 = 6) (q : Int32 × zM) (h : Ton_reading F a0 a1 x2 x3 M = some q) : Met l yX9_reading (wsM yX9_reading cX9_reading 6 (some .int)) (rmM 3 71) (Pre G M [.ref (G.1 + a0), .ref (G.1 + a1), .int x2, .int x3]) (PoI G q) 0 0 (gA G) := by
  refine r_met (own := RX9) rfl (by decide) (Nat.le_of_ble_eq_true rfl) ?_
  intro p e s m below meth c ls C hr hlk hS hl
  have hl : lv_has ls 6 [(0, .ref (G.1 + a0)), (1, .ref (G.1 + a1)), (2, .int x2), (3, .int x3)] := hl
  obtain ⟨hx, hb, -⟩ := id C
  unfold Ton_reading at h
  refine lv_iconst (v := 0) hx hb dX9_reading_0 (by decide) ?_
  refine lv_istore (lv' := [(4, .int 0), (0, .ref (G.1 + a0)), (1, .ref (G.1 + a1)), (2, .int x2), (3, .int x3)]) hx hb dX9_reading_1 hl (by decide) rfl (fun ls hl => ?_)
  refine lv_iconst (v := 0) hx hb dX9_reading_3 (by decide) ?_
  refine lv_istore (lv' := [(5, .int 0), (4, .int 0), (0, .ref (G.1 + a0)), (1, .ref (G.1 + a1)), (2, .int x2), (3, .int x3)]) hx hb dX9_reading_4 hl (by decide) rfl (fun ls hl => ?_)
  obtain ⟨⟨k_16, x4_13, x5_14, M_15⟩, hq_17, h⟩ := ob h
  try dsimp only at h
  refine loopW (E := (E_Ton_reading_6 G p l e s m _ below meth c _ a0 a1 x2 x3)) (w_Ton_reading_B6 C a0 a1 x2 x3 k0 k1 F) F _ _ hq_17 ?_ _ _ _ hS (lv_sub hl [2, 3, 4, 5, 1, 0] rfl)
  by_cases ek_19 : k_16 = 1
  · replace h := ifp ek_19 h
    subst ek_19
    intro H locs ls hS hl
    refine lv_iload hx hb dX9_reading_34 (lv_at hl 0 rfl) ?_
    exact r_iret C hS hr hlk h dX9_reading_36
  · replace h := ifn ek_19 h
    by_cases ek_18 : k_16 = 2
    · replace h := ifp ek_18 h
      subst ek_18
      intro H locs ls hS hl
      refine lv_iconst (v := (-1)) hx hb dX9_reading_43 (by decide) ?_
      exact r_iret C hS hr hlk h dX9_reading_44
    · replace h := ifn ek_18 h
      cases h
set_option maxHeartbeats 4000000 in
set_option maxRecDepth 100000 in
theorem c_X9_measureFrom (l : Launch) (G : Gl) (F : Nat) (a0 : Nat) (x2 : Int32) (M : zM) (k0 : zK a0 = 9) (q : Unit × zM) (h : Ton_measureFrom F a0 x2 M = some q) : Met l yX9_measureFrom (wsM yX9_measureFrom cX9_measureFrom 3 none) (rmM 2 51) (Pre G M [.ref (G.1 + a0), .ref (G.1 + 59), .int x2]) (PoV G q) 0 0 (gA G) := by
  refine r_met (own := RX9) rfl (by decide) (Nat.le_of_ble_eq_true rfl) ?_
  intro p e s m below meth c ls C hr hlk hS hl
  have hl : lv_has ls 3 [(0, .ref (G.1 + a0)), (1, .ref (G.1 + 59)), (2, .int x2)] := hl
  obtain ⟨hx, hb, -⟩ := id C
  unfold Ton_measureFrom at h
  refine lv_aload_n hx hb dX9_measureFrom_0 rfl (lv_at hl 1 rfl) ?_
  refine lv_aload_n hx hb dX9_measureFrom_1 rfl (lv_at hl 0 rfl) ?_
  refine r_gR C hS fl_X9_20 rfl k0 (zR_9_3 k0) dX9_measureFrom_2 ?_
  refine lv_iload_n hx hb dX9_measureFrom_5 rfl (lv_at hl 2 rfl) ?_
  obtain ⟨⟨_r_1, M_2⟩, hq_3, h⟩ := ob h
  try dsimp only at h
  refine r_thenV hS (r_runV C hS hl.1 cv_X9_105 rfl (c_X1_from l G F (a0 + 3) x2 M (zKr_9_3 k0) _ hq_3) ⟨by decide, by decide⟩ rfl rfl (Nat.le_of_ble_eq_true rfl) ⟨Nat.zero_le _, Nat.zero_le _⟩ dX9_measureFrom_6) (fun H locs hS => ?_)
  exact r_vret C hS hr hlk h dX9_measureFrom_9
set_option maxHeartbeats 4000000 in
set_option maxRecDepth 100000 in
theorem c_X9_farFrom (l : Launch) (G : Gl) (F : Nat) (a0 : Nat) (x2 : Int32) (M : zM) (k0 : zK a0 = 9) (q : Int32 × zM) (h : Ton_farFrom F a0 x2 M = some q) : Met l yX9_farFrom (wsM yX9_farFrom cX9_farFrom 3 (some .int)) (rmM 2 65) (Pre G M [.ref (G.1 + a0), .ref (G.1 + 59), .int x2]) (PoI G q) 0 0 (gA G) := by
  refine r_met (own := RX9) rfl (by decide) (Nat.le_of_ble_eq_true rfl) ?_
  intro p e s m below meth c ls C hr hlk hS hl
  have hl : lv_has ls 3 [(0, .ref (G.1 + a0)), (1, .ref (G.1 + 59)), (2, .int x2)] := hl
  obtain ⟨hx, hb, -⟩ := id C
  unfold Ton_farFrom at h
  refine lv_aload_n hx hb dX9_farFrom_0 rfl (lv_at hl 1 rfl) ?_
  refine lv_aload_n hx hb dX9_farFrom_1 rfl (lv_at hl 0 rfl) ?_
  refine r_gR C hS fl_X9_20 rfl k0 (zR_9_3 k0) dX9_farFrom_2 ?_
  refine lv_iload_n hx hb dX9_farFrom_5 rfl (lv_at hl 2 rfl) ?_
  obtain ⟨⟨r_1, M_2⟩, hq_3, h⟩ := ob h
  try dsimp only at h
  refine r_thenI hS (r_runV C hS hl.1 cv_X9_111 rfl (c_X1_to l G F (a0 + 3) x2 M (zKr_9_3 k0) _ hq_3) ⟨by decide, by decide⟩ rfl rfl (Nat.le_of_ble_eq_true rfl) ⟨Nat.zero_le _, Nat.zero_le _⟩ dX9_farFrom_6) (fun H locs hS => ?_)
  exact r_iret C hS hr hlk h dX9_farFrom_9
def E_Ton_putNamedInto_4 (G : Gl) (p : Program) (l : Launch) (e : Env) (s : State) (m : MethodId) (args : Array Value) (below : List Frame) (meth : Method) (c : Code) (Q : State → Prop) (a0 : Nat) (a1 : Nat) : Nat → (Int32 × Int32 × zM) → Prop := fun k (x2, x3, M) => match k with
  | 0 => ∀ (H : Heap) (locs : List Loc) (ls : Array Slot), St G M s H locs → lv_has ls 4 [(0, .ref (G.1 + a0)), (1, .ref (G.1 + a1)), (2, .int x2), (3, .int x3)] → W p l e (rmM 1 21) s m args below meth c H locs 0 0 Q (F0 m 4 ls [])
  | 1 => ∀ (H : Heap) (locs : List Loc) (ls : Array Slot), St G M s H locs → lv_has ls 4 [] → W p l e (rmM 1 21) s m args below meth c H locs 0 0 Q (F0 m 38 ls [])
  | _ => True
set_option maxHeartbeats 4000000 in
set_option maxRecDepth 100000 in
theorem w_Ton_putNamedInto_B4 {G : Gl} {p : Program} {l : Launch} {e : Env} {s : State} {m : MethodId} {args : Array Value} {below : List Frame} {meth : Method} {c : Code} {Q : State → Prop} (C : Cx G cX9_putNamedInto 4 RX9 p s m args c) (a0 : Nat) (a1 : Nat) (k0 : zK a0 = 9) (k1 : zK a1 = 12) (F : Nat) : ∀ (σ : (Int32 × Int32 × zM)) (q : Nat × (Int32 × Int32 × zM)), Ton_putNamedInto_B4 F a0 a1 σ = some q → (E_Ton_putNamedInto_4 G p l e s m args below meth c Q a0 a1) q.1 q.2 → (E_Ton_putNamedInto_4 G p l e s m args below meth c Q a0 a1) 0 σ := by
  intro (x2, x3, M) q h hE H locs ls hS hl
  obtain ⟨hx, hb, -⟩ := id C
  unfold Ton_putNamedInto_B4 at h
  try dsimp only at h
  refine lv_iload_n hx hb dX9_putNamedInto_4 rfl (lv_at hl 3 rfl) ?_
  refine lv_sipush (v := 1000) hx hb dX9_putNamedInto_5 (by decide) ?_
  refine lv_icmp_ge (tgt := 38) hx hb dX9_putNamedInto_8 (by decide) (fun c_1 => ?_) (fun c_1 => ?_)
  · replace h := ifp c_1 h
    obtain rfl := Option.some.inj h
    exact hE _ _ _ hS (lv_sub hl [] rfl)
  · replace h := ifn c_1 h
    refine lv_aload_n hx hb dX9_putNamedInto_11 rfl (lv_at hl 0 rfl) ?_
    refine lv_iload_n hx hb dX9_putNamedInto_12 rfl (lv_at hl 3 rfl) ?_
    obtain ⟨⟨r_2, M_3⟩, hq_4, h⟩ := ob h
    try dsimp only at h
    refine r_thenI hS (r_runV C hS hl.1 cv_X9_72 k0 (c_X9_has l G F a0 x3 M k0 _ hq_4) ⟨by decide, by decide⟩ rfl rfl (Nat.le_of_ble_eq_true rfl) ⟨Nat.zero_le _, Nat.zero_le _⟩ dX9_putNamedInto_13) (fun H locs hS => ?_)
    refine lv_if_eq (tgt := 32) hx hb dX9_putNamedInto_16 (by decide) (fun c_5 => ?_) (fun c_5 => ?_)
    · replace h := ifp c_5 h
      obtain ⟨x3_6, e_7, h⟩ := olt h
      refine lv_iinc (v := x3_6) (lv' := [(3, .int x3_6), (0, .ref (G.1 + a0)), (1, .ref (G.1 + a1)), (2, .int x2)]) hx hb dX9_putNamedInto_32 hl (k := 3) rfl (by rw [e_7]; rfl) (by decide) rfl (fun ls hl => ?_)
      refine lv_goto (tgt := 4) hx hb dX9_putNamedInto_35 (by decide) ?_
      obtain rfl := Option.some.inj h
      exact hE _ _ _ hS (lv_sub hl [1, 2, 3, 0] rfl)
    · replace h := ifn c_5 h
      refine lv_iload_n hx hb dX9_putNamedInto_19 rfl (lv_at hl 2 rfl) ?_
      refine lv_aload_n hx hb dX9_putNamedInto_20 rfl (lv_at hl 1 rfl) ?_
      refine r_alen C hS (v := Int32.ofNat (zN a1)) k1 ⟨by decide, by decide⟩ rfl (by rfl) dX9_putNamedInto_21 ?_
      refine lv_icmp_ge (tgt := 32) hx hb dX9_putNamedInto_22 (by decide) (fun c_8 => ?_) (fun c_8 => ?_)
      · replace h := ifp c_8 h
        obtain ⟨x3_9, e_10, h⟩ := olt h
        refine lv_iinc (v := x3_9) (lv' := [(3, .int x3_9), (0, .ref (G.1 + a0)), (1, .ref (G.1 + a1)), (2, .int x2)]) hx hb dX9_putNamedInto_32 hl (k := 3) rfl (by rw [e_10]; rfl) (by decide) rfl (fun ls hl => ?_)
        refine lv_goto (tgt := 4) hx hb dX9_putNamedInto_35 (by decide) ?_
        obtain rfl := Option.some.inj h
        exact hE _ _ _ hS (lv_sub hl [1, 2, 3, 0] rfl)
      · replace h := ifn c_8 h
        refine lv_aload_n hx hb dX9_putNamedInto_25 rfl (lv_at hl 1 rfl) ?_
        refine lv_iload_n hx hb dX9_putNamedInto_26 rfl (lv_at hl 2 rfl) ?_
        obtain ⟨x2_11, e_12, h⟩ := olt h
        refine lv_iinc (v := x2_11) (lv' := [(2, .int x2_11), (0, .ref (G.1 + a0)), (1, .ref (G.1 + a1)), (3, .int x3)]) hx hb dX9_putNamedInto_27 hl (k := 2) rfl (by rw [e_12]; rfl) (by decide) rfl (fun ls hl => ?_)
        refine lv_iload_n hx hb dX9_putNamedInto_30 rfl (lv_at hl 3 rfl) ?_
        obtain ⟨b_13, h⟩ := ift h
        obtain ⟨M_14, e_15, h⟩ := olt h
        refine r_iast C hS k1 rfl b_13 e_15 dX9_putNamedInto_31 (fun H locs hS => ?_)
        obtain ⟨x3_16, e_17, h⟩ := olt h
        refine lv_iinc (v := x3_16) (lv' := [(3, .int x3_16), (2, .int x2_11), (0, .ref (G.1 + a0)), (1, .ref (G.1 + a1))]) hx hb dX9_putNamedInto_32 hl (k := 3) rfl (by rw [e_17]; rfl) (by decide) rfl (fun ls hl => ?_)
        refine lv_goto (tgt := 4) hx hb dX9_putNamedInto_35 (by decide) ?_
        obtain rfl := Option.some.inj h
        exact hE _ _ _ hS (lv_sub hl [2, 3, 1, 0] rfl)
set_option maxHeartbeats 4000000 in
set_option maxRecDepth 100000 in
theorem c_X9_putNamedInto (l : Launch) (G : Gl) (F : Nat) (a0 : Nat) (a1 : Nat) (M : zM) (k0 : zK a0 = 9) (k1 : zK a1 = 12) (q : Unit × zM) (h : Ton_putNamedInto F a0 a1 M = some q) : Met l yX9_putNamedInto (wsM yX9_putNamedInto cX9_putNamedInto 4 none) (rmM 1 21) (Pre G M [.ref (G.1 + a0), .ref (G.1 + a1)]) (PoV G q) 0 0 (gA G) := by
  refine r_met (own := RX9) rfl (by decide) (Nat.le_of_ble_eq_true rfl) ?_
  intro p e s m below meth c ls C hr hlk hS hl
  have hl : lv_has ls 4 [(0, .ref (G.1 + a0)), (1, .ref (G.1 + a1))] := hl
  obtain ⟨hx, hb, -⟩ := id C
  unfold Ton_putNamedInto at h
  refine lv_iconst (v := 0) hx hb dX9_putNamedInto_0 (by decide) ?_
  refine lv_istore_n (lv' := [(2, .int 0), (0, .ref (G.1 + a0)), (1, .ref (G.1 + a1))]) hx hb dX9_putNamedInto_1 rfl hl (by decide) rfl (fun ls hl => ?_)
  refine lv_iconst (v := 0) hx hb dX9_putNamedInto_2 (by decide) ?_
  refine lv_istore_n (lv' := [(3, .int 0), (2, .int 0), (0, .ref (G.1 + a0)), (1, .ref (G.1 + a1))]) hx hb dX9_putNamedInto_3 rfl hl (by decide) rfl (fun ls hl => ?_)
  obtain ⟨⟨k_21, x2_18, x3_19, M_20⟩, hq_22, h⟩ := ob h
  try dsimp only at h
  refine loopW (E := (E_Ton_putNamedInto_4 G p l e s m _ below meth c _ a0 a1)) (w_Ton_putNamedInto_B4 C a0 a1 k0 k1 F) F _ _ hq_22 ?_ _ _ _ hS (lv_sub hl [2, 3, 1, 0] rfl)
  by_cases ek_23 : k_21 = 1
  · replace h := ifp ek_23 h
    subst ek_23
    intro H locs ls hS hl
    exact r_vret C hS hr hlk h dX9_putNamedInto_38
  · replace h := ifn ek_23 h
    cases h
set_option maxHeartbeats 4000000 in
set_option maxRecDepth 100000 in
theorem c_X9_bringInOrder (l : Launch) (G : Gl) (F : Nat) (a0 : Nat) (M : zM) (k0 : zK a0 = 9) (q : Unit × zM) (h : Ton_bringInOrder F a0 M = some q) : Met l yX9_bringInOrder (wsM yX9_bringInOrder cX9_bringInOrder 2 none) (rmM 4 113) (Pre G M [.ref (G.1 + a0), .ref (G.1 + 50)]) (PoV G q) 0 0 (gA G) := by
  refine r_met (own := RX9) rfl (by decide) (Nat.le_of_ble_eq_true rfl) ?_
  intro p e s m below meth c ls C hr hlk hS hl
  have hl : lv_has ls 2 [(0, .ref (G.1 + a0)), (1, .ref (G.1 + 50))] := hl
  obtain ⟨hx, hb, -⟩ := id C
  unfold Ton_bringInOrder at h
  refine lv_aload_n hx hb dX9_bringInOrder_0 rfl (lv_at hl 0 rfl) ?_
  refine r_gI C hS fl_X9_55 rfl k0 dX9_bringInOrder_1 ?_
  refine lv_if_ne (tgt := 36) hx hb dX9_bringInOrder_4 (by decide) (fun c_1 => ?_) (fun c_1 => ?_)
  · replace h := ifn c_1 h
    exact r_vret C hS hr hlk h dX9_bringInOrder_36
  · replace h := ifp c_1 h
    refine lv_aload_n hx hb dX9_bringInOrder_7 rfl (lv_at hl 0 rfl) ?_
    refine lv_aload_n hx hb dX9_bringInOrder_8 rfl (lv_at hl 0 rfl) ?_
    refine r_gR C hS fl_X9_36 rfl k0 (zR_9_8 k0) dX9_bringInOrder_9 ?_
    obtain ⟨⟨_r_2, M_3⟩, hq_4, h⟩ := ob h
    try dsimp only at h
    refine r_thenV hS (r_runV C hS hl.1 cv_X9_115 k0 (c_X9_putNamedInto l G F a0 (a0 + 9) M k0 (zKr_9_8 k0) _ hq_4) ⟨by decide, by decide⟩ rfl rfl (Nat.le_of_ble_eq_true rfl) ⟨Nat.zero_le _, Nat.zero_le _⟩ dX9_bringInOrder_12) (fun H locs hS => ?_)
    refine lv_aload_n hx hb dX9_bringInOrder_15 rfl (lv_at hl 1 rfl) ?_
    refine lv_aload_n hx hb dX9_bringInOrder_16 rfl (lv_at hl 0 rfl) ?_
    refine r_gR C hS fl_X9_36 rfl k0 (zR_9_8 k0) dX9_bringInOrder_17 ?_
    refine lv_aload_n hx hb dX9_bringInOrder_20 rfl (lv_at hl 0 rfl) ?_
    refine r_gI C hS fl_X9_46 rfl k0 dX9_bringInOrder_21 ?_
    refine lv_aload_n hx hb dX9_bringInOrder_24 rfl (lv_at hl 0 rfl) ?_
    refine r_gR C hS fl_X9_14 rfl k0 (zR_9_2 k0) dX9_bringInOrder_25 ?_
    obtain ⟨⟨_r_5, M_6⟩, hq_7, h⟩ := ob h
    try dsimp only at h
    refine r_thenV hS (r_runV C hS hl.1 cv_X9_119 rfl (c_X5_sort l G F (a0 + 9) (M_3.1 a0 1) (a0 + 1) M_3 (zKr_9_8 k0) (zKr_9_2 k0) _ hq_7) ⟨by decide, by decide⟩ rfl rfl (Nat.le_of_ble_eq_true rfl) ⟨Nat.zero_le _, Nat.zero_le _⟩ dX9_bringInOrder_28) (fun H locs hS => ?_)
    refine lv_aload_n hx hb dX9_bringInOrder_31 rfl (lv_at hl 0 rfl) ?_
    refine lv_iconst (v := 1) hx hb dX9_bringInOrder_32 (by decide) ?_
    obtain ⟨M_8, e_9, h⟩ := olt h
    refine r_put C hS fp_X9_55 rfl (by decide) (by decide) k0 e_9 dX9_bringInOrder_33 (fun H locs hS => ?_)
    exact r_vret C hS hr hlk h dX9_bringInOrder_36
set_option maxHeartbeats 4000000 in
set_option maxRecDepth 100000 in
theorem c_X9_numberAt (l : Launch) (G : Gl) (F : Nat) (a0 : Nat) (x1 : Int32) (M : zM) (k0 : zK a0 = 9) (q : Int32 × zM) (h : Ton_numberAt F a0 x1 M = some q) : Met l yX9_numberAt (wsM yX9_numberAt cX9_numberAt 3 (some .int)) (rmM 5 134) (Pre G M [.ref (G.1 + a0), .int x1, .ref (G.1 + 50)]) (PoI G q) 0 0 (gA G) := by
  refine r_met (own := RX9) rfl (by decide) (Nat.le_of_ble_eq_true rfl) ?_
  intro p e s m below meth c ls C hr hlk hS hl
  have hl : lv_has ls 3 [(0, .ref (G.1 + a0)), (1, .int x1), (2, .ref (G.1 + 50))] := hl
  obtain ⟨hx, hb, -⟩ := id C
  unfold Ton_numberAt at h
  refine lv_aload_n hx hb dX9_numberAt_0 rfl (lv_at hl 0 rfl) ?_
  refine lv_aload_n hx hb dX9_numberAt_1 rfl (lv_at hl 2 rfl) ?_
  obtain ⟨⟨_r_1, M_2⟩, hq_3, h⟩ := ob h
  try dsimp only at h
  refine r_thenV hS (r_runV C hS hl.1 cv_X9_125 k0 (c_X9_bringInOrder l G F a0 M k0 _ hq_3) ⟨by decide, by decide⟩ rfl rfl (Nat.le_of_ble_eq_true rfl) ⟨Nat.zero_le _, Nat.zero_le _⟩ dX9_numberAt_2) (fun H locs hS => ?_)
  refine lv_iload_n hx hb dX9_numberAt_5 rfl (lv_at hl 1 rfl) ?_
  refine lv_if_lt (tgt := 35) hx hb dX9_numberAt_6 (by decide) (fun c_4 => ?_) (fun c_4 => ?_)
  · replace h := ifp c_4 h
    refine lv_iconst (v := (-1)) hx hb dX9_numberAt_35 (by decide) ?_
    exact r_iret C hS hr hlk h dX9_numberAt_36
  · replace h := ifn c_4 h
    refine lv_iload_n hx hb dX9_numberAt_9 rfl (lv_at hl 1 rfl) ?_
    refine lv_aload_n hx hb dX9_numberAt_10 rfl (lv_at hl 0 rfl) ?_
    refine r_gI C hS fl_X9_46 rfl k0 dX9_numberAt_11 ?_
    refine lv_icmp_ge (tgt := 35) hx hb dX9_numberAt_14 (by decide) (fun c_5 => ?_) (fun c_5 => ?_)
    · replace h := ifp c_5 h
      refine lv_iconst (v := (-1)) hx hb dX9_numberAt_35 (by decide) ?_
      exact r_iret C hS hr hlk h dX9_numberAt_36
    · replace h := ifn c_5 h
      refine lv_iload_n hx hb dX9_numberAt_17 rfl (lv_at hl 1 rfl) ?_
      refine lv_aload_n hx hb dX9_numberAt_18 rfl (lv_at hl 0 rfl) ?_
      refine r_gR C hS fl_X9_36 rfl k0 (zR_9_8 k0) dX9_numberAt_19 ?_
      refine r_alen C hS (v := 1000) (zKr_9_8 k0) ⟨by decide, by decide⟩ (zNr_9_8 k0) (by decide) dX9_numberAt_22 ?_
      refine lv_icmp_ge (tgt := 35) hx hb dX9_numberAt_23 (by decide) (fun c_6 => ?_) (fun c_6 => ?_)
      · replace h := ifp c_6 h
        refine lv_iconst (v := (-1)) hx hb dX9_numberAt_35 (by decide) ?_
        exact r_iret C hS hr hlk h dX9_numberAt_36
      · replace h := ifn c_6 h
        refine lv_aload_n hx hb dX9_numberAt_26 rfl (lv_at hl 0 rfl) ?_
        refine r_gR C hS fl_X9_36 rfl k0 (zR_9_8 k0) dX9_numberAt_27 ?_
        refine lv_iload_n hx hb dX9_numberAt_30 rfl (lv_at hl 1 rfl) ?_
        obtain ⟨b_7, h⟩ := ift h
        refine r_iald C hS (zKr_9_8 k0) (zNr_9_8 k0) b_7 dX9_numberAt_31 ?_
        refine lv_goto (tgt := 36) hx hb dX9_numberAt_32 (by decide) ?_
        exact r_iret C hS hr hlk h dX9_numberAt_36
def E_Ton_placeOf_7 (G : Gl) (p : Program) (l : Launch) (e : Env) (s : State) (m : MethodId) (args : Array Value) (below : List Frame) (meth : Method) (c : Code) (Q : State → Prop) (a0 : Nat) (x1 : Int32) : Nat → (Int32 × zM) → Prop := fun k (x3, M) => match k with
  | 0 => ∀ (H : Heap) (locs : List Loc) (ls : Array Slot), St G M s H locs → lv_has ls 4 [(0, .ref (G.1 + a0)), (1, .int x1), (3, .int x3)] → W p l e (rmM 5 134) s m args below meth c H locs 0 0 Q (F0 m 7 ls [])
  | 1 => ∀ (H : Heap) (locs : List Loc) (ls : Array Slot), St G M s H locs → lv_has ls 4 [(3, .int x3)] → W p l e (rmM 5 134) s m args below meth c H locs 0 0 Q (F0 m 34 ls [])
  | 2 => ∀ (H : Heap) (locs : List Loc) (ls : Array Slot), St G M s H locs → lv_has ls 4 [] → W p l e (rmM 5 134) s m args below meth c H locs 0 0 Q (F0 m 42 ls [])
  | _ => True
set_option maxHeartbeats 4000000 in
set_option maxRecDepth 100000 in
theorem w_Ton_placeOf_B7 {G : Gl} {p : Program} {l : Launch} {e : Env} {s : State} {m : MethodId} {args : Array Value} {below : List Frame} {meth : Method} {c : Code} {Q : State → Prop} (C : Cx G cX9_placeOf 4 RX9 p s m args c) (a0 : Nat) (x1 : Int32) (k0 : zK a0 = 9) (F : Nat) : ∀ (σ : (Int32 × zM)) (q : Nat × (Int32 × zM)), Ton_placeOf_B7 F a0 x1 σ = some q → (E_Ton_placeOf_7 G p l e s m args below meth c Q a0 x1) q.1 q.2 → (E_Ton_placeOf_7 G p l e s m args below meth c Q a0 x1) 0 σ := by
  intro (x3, M) q h hE H locs ls hS hl
  obtain ⟨hx, hb, -⟩ := id C
  unfold Ton_placeOf_B7 at h
  try dsimp only at h
  refine lv_iload_n hx hb dX9_placeOf_7 rfl (lv_at hl 2 rfl) ?_
  refine lv_aload_n hx hb dX9_placeOf_8 rfl (lv_at hl 0 rfl) ?_
  refine r_gI C hS fl_X9_46 rfl k0 dX9_placeOf_9 ?_
  refine lv_icmp_ge (tgt := 42) hx hb dX9_placeOf_12 (by decide) (fun c_4 => ?_) (fun c_4 => ?_)
  · replace h := ifp c_4 h
    obtain rfl := Option.some.inj h
    exact hE _ _ _ hS (lv_sub hl [] rfl)
  · replace h := ifn c_4 h
    refine lv_iload_n hx hb dX9_placeOf_15 rfl (lv_at hl 2 rfl) ?_
    refine lv_aload_n hx hb dX9_placeOf_16 rfl (lv_at hl 0 rfl) ?_
    refine r_gR C hS fl_X9_36 rfl k0 (zR_9_8 k0) dX9_placeOf_17 ?_
    refine r_alen C hS (v := 1000) (zKr_9_8 k0) ⟨by decide, by decide⟩ (zNr_9_8 k0) (by decide) dX9_placeOf_20 ?_
    refine lv_icmp_ge (tgt := 42) hx hb dX9_placeOf_21 (by decide) (fun c_5 => ?_) (fun c_5 => ?_)
    · replace h := ifp c_5 h
      obtain rfl := Option.some.inj h
      exact hE _ _ _ hS (lv_sub hl [] rfl)
    · replace h := ifn c_5 h
      refine lv_aload_n hx hb dX9_placeOf_24 rfl (lv_at hl 0 rfl) ?_
      refine r_gR C hS fl_X9_36 rfl k0 (zR_9_8 k0) dX9_placeOf_25 ?_
      refine lv_iload_n hx hb dX9_placeOf_28 rfl (lv_at hl 2 rfl) ?_
      obtain ⟨b_6, h⟩ := ift h
      refine r_iald C hS (zKr_9_8 k0) (zNr_9_8 k0) b_6 dX9_placeOf_29 ?_
      refine lv_iload_n hx hb dX9_placeOf_30 rfl (lv_at hl 1 rfl) ?_
      refine lv_icmp_ne (tgt := 36) hx hb dX9_placeOf_31 (by decide) (fun c_7 => ?_) (fun c_7 => ?_)
      · replace h := ifn c_7 h
        obtain ⟨x3_8, e_9, h⟩ := olt h
        refine lv_iinc (v := x3_8) (lv' := [(3, .int x3_8), (0, .ref (G.1 + a0)), (1, .int x1)]) hx hb dX9_placeOf_36 hl (k := 2) rfl (by rw [e_9]; rfl) (by decide) rfl (fun ls hl => ?_)
        refine lv_goto (tgt := 7) hx hb dX9_placeOf_39 (by decide) ?_
        obtain rfl := Option.some.inj h
        exact hE _ _ _ hS (lv_sub hl [1, 2, 0] rfl)
      · replace h := ifp c_7 h
        obtain rfl := Option.some.inj h
        exact hE _ _ _ hS (lv_sub hl [2] rfl)
set_option maxHeartbeats 4000000 in
set_option maxRecDepth 100000 in
theorem c_X9_placeOf (l : Launch) (G : Gl) (F : Nat) (a0 : Nat) (x1 : Int32) (M : zM) (k0 : zK a0 = 9) (q : Int32 × zM) (h : Ton_placeOf F a0 x1 M = some q) : Met l yX9_placeOf (wsM yX9_placeOf cX9_placeOf 4 (some .int)) (rmM 5 134) (Pre G M [.ref (G.1 + a0), .int x1, .ref (G.1 + 50)]) (PoI G q) 0 0 (gA G) := by
  refine r_met (own := RX9) rfl (by decide) (Nat.le_of_ble_eq_true rfl) ?_
  intro p e s m below meth c ls C hr hlk hS hl
  have hl : lv_has ls 4 [(0, .ref (G.1 + a0)), (1, .int x1), (2, .ref (G.1 + 50))] := hl
  obtain ⟨hx, hb, -⟩ := id C
  unfold Ton_placeOf at h
  refine lv_aload_n hx hb dX9_placeOf_0 rfl (lv_at hl 0 rfl) ?_
  refine lv_aload_n hx hb dX9_placeOf_1 rfl (lv_at hl 2 rfl) ?_
  obtain ⟨⟨_r_1, M_2⟩, hq_3, h⟩ := ob h
  try dsimp only at h
  refine r_thenV hS (r_runV C hS hl.1 cv_X9_125 k0 (c_X9_bringInOrder l G F a0 M k0 _ hq_3) ⟨by decide, by decide⟩ rfl rfl (Nat.le_of_ble_eq_true rfl) ⟨Nat.zero_le _, Nat.zero_le _⟩ dX9_placeOf_2) (fun H locs hS => ?_)
  refine lv_iconst (v := 0) hx hb dX9_placeOf_5 (by decide) ?_
  refine lv_istore_n (lv' := [(3, .int 0), (0, .ref (G.1 + a0)), (1, .int x1), (2, .ref (G.1 + 50))]) hx hb dX9_placeOf_6 rfl hl (by decide) rfl (fun ls hl => ?_)
  obtain ⟨⟨k_12, x3_10, M_11⟩, hq_13, h⟩ := ob h
  try dsimp only at h
  refine loopW (E := (E_Ton_placeOf_7 G p l e s m _ below meth c _ a0 x1)) (w_Ton_placeOf_B7 C a0 x1 k0 F) F _ _ hq_13 ?_ _ _ _ hS (lv_sub hl [1, 2, 0] rfl)
  by_cases ek_15 : k_12 = 1
  · replace h := ifp ek_15 h
    subst ek_15
    intro H locs ls hS hl
    refine lv_iload_n hx hb dX9_placeOf_34 rfl (lv_at hl 0 rfl) ?_
    exact r_iret C hS hr hlk h dX9_placeOf_35
  · replace h := ifn ek_15 h
    by_cases ek_14 : k_12 = 2
    · replace h := ifp ek_14 h
      subst ek_14
      intro H locs ls hS hl
      refine lv_iconst (v := (-1)) hx hb dX9_placeOf_42 (by decide) ?_
      exact r_iret C hS hr hlk h dX9_placeOf_43
    · replace h := ifn ek_14 h
      cases h
set_option maxHeartbeats 4000000 in
set_option maxRecDepth 100000 in
theorem c_X9_chooseFirst (l : Launch) (G : Gl) (F : Nat) (a0 : Nat) (x1 : Int32) (x2 : Int32) (M : zM) (k0 : zK a0 = 9) (q : Unit × zM) (h : Ton_chooseFirst F a0 x1 x2 M = some q) : Met l yX9_chooseFirst (wsM yX9_chooseFirst cX9_chooseFirst 3 none) (rmM 0 0) (Pre G M [.ref (G.1 + a0), .int x1, .int x2]) (PoV G q) 0 0 (gA G) := by
  refine r_met (own := RX9) rfl (by decide) (Nat.le_of_ble_eq_true rfl) ?_
  intro p e s m below meth c ls C hr hlk hS hl
  have hl : lv_has ls 3 [(0, .ref (G.1 + a0)), (1, .int x1), (2, .int x2)] := hl
  obtain ⟨hx, hb, -⟩ := id C
  unfold Ton_chooseFirst at h
  refine lv_aload_n hx hb dX9_chooseFirst_0 rfl (lv_at hl 0 rfl) ?_
  refine r_gI C hS fl_X9_135 rfl k0 dX9_chooseFirst_1 ?_
  refine lv_iconst (v := (-1)) hx hb dX9_chooseFirst_4 (by decide) ?_
  refine lv_icmp_eq (tgt := 16) hx hb dX9_chooseFirst_5 (by decide) (fun c_1 => ?_) (fun c_1 => ?_)
  · replace h := ifp c_1 h
    refine lv_aload_n hx hb dX9_chooseFirst_16 rfl (lv_at hl 0 rfl) ?_
    refine lv_iload_n hx hb dX9_chooseFirst_17 rfl (lv_at hl 1 rfl) ?_
    obtain ⟨M_2, e_3, h⟩ := olt h
    refine r_pI C hS fp_X9_132 rfl k0 e_3 dX9_chooseFirst_18 (fun H locs hS => ?_)
    refine lv_aload_n hx hb dX9_chooseFirst_21 rfl (lv_at hl 0 rfl) ?_
    refine lv_iload_n hx hb dX9_chooseFirst_22 rfl (lv_at hl 2 rfl) ?_
    obtain ⟨M_4, e_5, h⟩ := olt h
    refine r_pI C hS fp_X9_135 rfl k0 e_5 dX9_chooseFirst_23 (fun H locs hS => ?_)
    exact r_vret C hS hr hlk h dX9_chooseFirst_26
  · replace h := ifn c_1 h
    refine lv_iload_n hx hb dX9_chooseFirst_8 rfl (lv_at hl 2 rfl) ?_
    refine lv_aload_n hx hb dX9_chooseFirst_9 rfl (lv_at hl 0 rfl) ?_
    refine r_gI C hS fl_X9_135 rfl k0 dX9_chooseFirst_10 ?_
    refine lv_icmp_ge (tgt := 26) hx hb dX9_chooseFirst_13 (by decide) (fun c_6 => ?_) (fun c_6 => ?_)
    · replace h := ifp c_6 h
      exact r_vret C hS hr hlk h dX9_chooseFirst_26
    · replace h := ifn c_6 h
      refine lv_aload_n hx hb dX9_chooseFirst_16 rfl (lv_at hl 0 rfl) ?_
      refine lv_iload_n hx hb dX9_chooseFirst_17 rfl (lv_at hl 1 rfl) ?_
      obtain ⟨M_7, e_8, h⟩ := olt h
      refine r_pI C hS fp_X9_132 rfl k0 e_8 dX9_chooseFirst_18 (fun H locs hS => ?_)
      refine lv_aload_n hx hb dX9_chooseFirst_21 rfl (lv_at hl 0 rfl) ?_
      refine lv_iload_n hx hb dX9_chooseFirst_22 rfl (lv_at hl 2 rfl) ?_
      obtain ⟨M_9, e_10, h⟩ := olt h
      refine r_pI C hS fp_X9_135 rfl k0 e_10 dX9_chooseFirst_23 (fun H locs hS => ?_)
      exact r_vret C hS hr hlk h dX9_chooseFirst_26
def E_Ton_seekTwins_51 (G : Gl) (p : Program) (l : Launch) (e : Env) (s : State) (m : MethodId) (args : Array Value) (below : List Frame) (meth : Method) (c : Code) (Q : State → Prop) (a0 : Nat) : Nat → (Int32 × Int32 × zM) → Prop := fun k (x3, x4, M) => match k with
  | 0 => ∀ (H : Heap) (locs : List Loc) (ls : Array Slot), St G M s H locs → lv_has ls 5 [(0, .ref (G.1 + a0)), (2, .ref (G.1 + 52)), (3, .int x3), (4, .int x4)] → W p l e (rmM 4 113) s m args below meth c H locs 0 0 Q (F0 m 51 ls [])
  | 1 => ∀ (H : Heap) (locs : List Loc) (ls : Array Slot), St G M s H locs → lv_has ls 5 [(0, .ref (G.1 + a0))] → W p l e (rmM 4 113) s m args below meth c H locs 0 0 Q (F0 m 142 ls [])
  | _ => True
set_option maxHeartbeats 4000000 in
set_option maxRecDepth 100000 in
theorem w_Ton_seekTwins_B51 {G : Gl} {p : Program} {l : Launch} {e : Env} {s : State} {m : MethodId} {args : Array Value} {below : List Frame} {meth : Method} {c : Code} {Q : State → Prop} (C : Cx G cX9_seekTwins 5 RX9 p s m args c) (a0 : Nat) (k0 : zK a0 = 9) (F : Nat) : ∀ (σ : (Int32 × Int32 × zM)) (q : Nat × (Int32 × Int32 × zM)), Ton_seekTwins_B51 F a0 σ = some q → (E_Ton_seekTwins_51 G p l e s m args below meth c Q a0) q.1 q.2 → (E_Ton_seekTwins_51 G p l e s m args below meth c Q a0) 0 σ := by
  intro (x3, x4, M) q h hE H locs ls hS hl
  obtain ⟨hx, hb, -⟩ := id C
  unfold Ton_seekTwins_B51 at h
  try dsimp only at h
  refine lv_iload hx hb dX9_seekTwins_51 (lv_at hl 3 rfl) ?_
  refine lv_aload_n hx hb dX9_seekTwins_53 rfl (lv_at hl 0 rfl) ?_
  refine r_gI C hS fl_X9_46 rfl k0 dX9_seekTwins_54 ?_
  refine lv_icmp_ge (tgt := 142) hx hb dX9_seekTwins_57 (by decide) (fun c_17 => ?_) (fun c_17 => ?_)
  · replace h := ifp c_17 h
    obtain rfl := Option.some.inj h
    exact hE _ _ _ hS (lv_sub hl [0] rfl)
  · replace h := ifn c_17 h
    refine lv_iload hx hb dX9_seekTwins_60 (lv_at hl 3 rfl) ?_
    refine lv_aload_n hx hb dX9_seekTwins_62 rfl (lv_at hl 1 rfl) ?_
    refine r_alen C hS (v := 1000) rfl ⟨by decide, by decide⟩ rfl (by decide) dX9_seekTwins_63 ?_
    refine lv_icmp_ge (tgt := 142) hx hb dX9_seekTwins_64 (by decide) (fun c_18 => ?_) (fun c_18 => ?_)
    · replace h := ifp c_18 h
      obtain rfl := Option.some.inj h
      exact hE _ _ _ hS (lv_sub hl [0] rfl)
    · replace h := ifn c_18 h
      refine lv_aload_n hx hb dX9_seekTwins_67 rfl (lv_at hl 0 rfl) ?_
      refine r_gR C hS fl_X9_20 rfl k0 (zR_9_3 k0) dX9_seekTwins_68 ?_
      refine lv_aload_n hx hb dX9_seekTwins_71 rfl (lv_at hl 1 rfl) ?_
      refine lv_iload_n hx hb dX9_seekTwins_72 rfl (lv_at hl 2 rfl) ?_
      obtain ⟨b_19, h⟩ := ift h
      refine r_iald C hS rfl rfl b_19 dX9_seekTwins_73 ?_
      refine lv_aload_n hx hb dX9_seekTwins_74 rfl (lv_at hl 0 rfl) ?_
      refine r_gR C hS fl_X9_20 rfl k0 (zR_9_3 k0) dX9_seekTwins_75 ?_
      refine lv_aload_n hx hb dX9_seekTwins_78 rfl (lv_at hl 1 rfl) ?_
      refine lv_iload hx hb dX9_seekTwins_79 (lv_at hl 3 rfl) ?_
      obtain ⟨b_20, h⟩ := ift h
      refine r_iald C hS rfl rfl b_20 dX9_seekTwins_81 ?_
      obtain ⟨⟨r_21, M_22⟩, hq_23, h⟩ := ob h
      try dsimp only at h
      refine r_thenI hS (r_runV C hS hl.1 cv_X9_90 (zKr_9_3 k0) (c_X6_compare l G F (a0 + 3) (M.1 52 x3.toNatClampNeg) (a0 + 3) (M.1 52 x4.toNatClampNeg) M (zKr_9_3 k0) (zKr_9_3 k0) _ hq_23) ⟨by decide, by decide⟩ rfl rfl (Nat.le_of_ble_eq_true rfl) ⟨Nat.zero_le _, Nat.zero_le _⟩ dX9_seekTwins_82) (fun H locs hS => ?_)
      refine lv_if_eq (tgt := 94) hx hb dX9_seekTwins_85 (by decide) (fun c_24 => ?_) (fun c_24 => ?_)
      · replace h := ifp c_24 h
        refine lv_iload hx hb dX9_seekTwins_94 (lv_at hl 3 rfl) ?_
        refine lv_iload_n hx hb dX9_seekTwins_96 rfl (lv_at hl 2 rfl) ?_
        refine lv_iconst (v := 1) hx hb dX9_seekTwins_97 (by decide) ?_
        refine lv_iadd hx hb dX9_seekTwins_98 ?_
        refine lv_icmp_ne (tgt := 126) hx hb dX9_seekTwins_99 (by decide) (fun c_25 => ?_) (fun c_25 => ?_)
        · replace h := ifn c_25 h
          refine lv_aload_n hx hb dX9_seekTwins_126 rfl (lv_at hl 0 rfl) ?_
          refine lv_dup hx hb dX9_seekTwins_127 rfl ?_
          refine r_gI C hS fl_X9_138 rfl k0 dX9_seekTwins_128 ?_
          refine lv_iconst (v := 1) hx hb dX9_seekTwins_131 (by decide) ?_
          refine lv_iadd hx hb dX9_seekTwins_132 ?_
          obtain ⟨M_26, e_27, h⟩ := olt h
          refine r_pI C hS fp_X9_138 rfl k0 e_27 dX9_seekTwins_133 (fun H locs hS => ?_)
          obtain ⟨x4_28, e_29, h⟩ := olt h
          refine lv_iinc (v := x4_28) (lv' := [(4, .int x4_28), (0, .ref (G.1 + a0)), (2, .ref (G.1 + 52)), (3, .int x3)]) hx hb dX9_seekTwins_136 hl (k := 3) rfl (by rw [e_29]; rfl) (by decide) rfl (fun ls hl => ?_)
          refine lv_goto (tgt := 51) hx hb dX9_seekTwins_139 (by decide) ?_
          obtain rfl := Option.some.inj h
          exact hE _ _ _ hS (lv_sub hl [1, 2, 3, 0] rfl)
        · replace h := ifp c_25 h
          refine lv_aload_n hx hb dX9_seekTwins_102 rfl (lv_at hl 0 rfl) ?_
          refine lv_dup hx hb dX9_seekTwins_103 rfl ?_
          refine r_gI C hS fl_X9_138 rfl k0 dX9_seekTwins_104 ?_
          refine lv_iconst (v := 2) hx hb dX9_seekTwins_107 (by decide) ?_
          refine lv_iadd hx hb dX9_seekTwins_108 ?_
          obtain ⟨M_30, e_31, h⟩ := olt h
          refine r_pI C hS fp_X9_138 rfl k0 e_31 dX9_seekTwins_109 (fun H locs hS => ?_)
          refine lv_aload_n hx hb dX9_seekTwins_112 rfl (lv_at hl 0 rfl) ?_
          refine lv_aload_n hx hb dX9_seekTwins_113 rfl (lv_at hl 1 rfl) ?_
          refine lv_iload_n hx hb dX9_seekTwins_114 rfl (lv_at hl 2 rfl) ?_
          refine r_iald C hS rfl rfl b_19 dX9_seekTwins_115 ?_
          refine lv_aload_n hx hb dX9_seekTwins_116 rfl (lv_at hl 1 rfl) ?_
          refine lv_iload hx hb dX9_seekTwins_117 (lv_at hl 3 rfl) ?_
          refine r_iald C hS rfl rfl b_20 dX9_seekTwins_119 ?_
          obtain ⟨⟨_r_32, M_33⟩, hq_34, h⟩ := ob h
          try dsimp only at h
          refine r_thenV hS (r_runV C hS hl.1 cv_X9_145 k0 (c_X9_chooseFirst l G F a0 (M_30.1 52 x3.toNatClampNeg) (M_30.1 52 x4.toNatClampNeg) M_30 k0 _ hq_34) ⟨by decide, by decide⟩ rfl rfl (Nat.le_of_ble_eq_true rfl) ⟨Nat.zero_le _, Nat.zero_le _⟩ dX9_seekTwins_120) (fun H locs hS => ?_)
          refine lv_goto (tgt := 136) hx hb dX9_seekTwins_123 (by decide) ?_
          obtain ⟨x4_35, e_36, h⟩ := olt h
          refine lv_iinc (v := x4_35) (lv' := [(4, .int x4_35), (0, .ref (G.1 + a0)), (2, .ref (G.1 + 52)), (3, .int x3)]) hx hb dX9_seekTwins_136 hl (k := 3) rfl (by rw [e_36]; rfl) (by decide) rfl (fun ls hl => ?_)
          refine lv_goto (tgt := 51) hx hb dX9_seekTwins_139 (by decide) ?_
          obtain rfl := Option.some.inj h
          exact hE _ _ _ hS (lv_sub hl [1, 2, 3, 0] rfl)
      · replace h := ifn c_24 h
        refine lv_iload hx hb dX9_seekTwins_88 (lv_at hl 3 rfl) ?_
        refine lv_istore_n (lv' := [(3, .int x4), (0, .ref (G.1 + a0)), (2, .ref (G.1 + 52)), (4, .int x4)]) hx hb dX9_seekTwins_90 rfl hl (by decide) rfl (fun ls hl => ?_)
        refine lv_goto (tgt := 136) hx hb dX9_seekTwins_91 (by decide) ?_
        obtain ⟨x4_37, e_38, h⟩ := olt h
        refine lv_iinc (v := x4_37) (lv' := [(4, .int x4_37), (3, .int x4), (0, .ref (G.1 + a0)), (2, .ref (G.1 + 52))]) hx hb dX9_seekTwins_136 hl (k := 3) rfl (by rw [e_38]; rfl) (by decide) rfl (fun ls hl => ?_)
        refine lv_goto (tgt := 51) hx hb dX9_seekTwins_139 (by decide) ?_
        obtain rfl := Option.some.inj h
        exact hE _ _ _ hS (lv_sub hl [2, 3, 1, 0] rfl)
set_option maxHeartbeats 4000000 in
set_option maxRecDepth 100000 in
theorem c_X9_seekTwins (l : Launch) (G : Gl) (F : Nat) (a0 : Nat) (M : zM) (k0 : zK a0 = 9) (q : Unit × zM) (h : Ton_seekTwins F a0 M = some q) : Met l yX9_seekTwins (wsM yX9_seekTwins cX9_seekTwins 5 none) (rmM 4 113) (Pre G M [.ref (G.1 + a0), .ref (G.1 + 50)]) (PoV G q) 0 0 (gA G) := by
  refine r_met (own := RX9) rfl (by decide) (Nat.le_of_ble_eq_true rfl) ?_
  intro p e s m below meth c ls C hr hlk hS hl
  have hl : lv_has ls 5 [(0, .ref (G.1 + a0)), (1, .ref (G.1 + 50))] := hl
  obtain ⟨hx, hb, -⟩ := id C
  unfold Ton_seekTwins at h
  refine lv_aload_n hx hb dX9_seekTwins_0 rfl (lv_at hl 0 rfl) ?_
  refine r_gI C hS fl_X9_59 rfl k0 dX9_seekTwins_1 ?_
  refine lv_if_eq (tgt := 8) hx hb dX9_seekTwins_4 (by decide) (fun c_1 => ?_) (fun c_1 => ?_)
  · replace h := ifp c_1 h
    refine lv_aload_n hx hb dX9_seekTwins_8 rfl (lv_at hl 1 rfl) ?_
    obtain ⟨⟨r_2, M_3⟩, hq_4, h⟩ := ob h
    try dsimp only at h
    obtain rfl : 52 = r_2 := congrArg Prod.fst (Option.some.inj hq_4)
    refine r_thenR hS (r_runV C hS hl.1 cv_X9_141 rfl (c_X5_bench l G F  M  _ hq_4) ⟨by decide, by decide⟩ rfl rfl (Nat.le_of_ble_eq_true rfl) ⟨Nat.zero_le _, Nat.zero_le _⟩ dX9_seekTwins_9) (fun H locs hS => ?_)
    refine lv_astore_n (lv' := [(2, .ref (G.1 + 52)), (0, .ref (G.1 + a0)), (1, .ref (G.1 + 50))]) hx hb dX9_seekTwins_12 rfl hl (by decide) rfl (fun ls hl => ?_)
    refine lv_aload_n hx hb dX9_seekTwins_13 rfl (lv_at hl 1 rfl) ?_
    refine lv_aload_n hx hb dX9_seekTwins_14 rfl (lv_at hl 0 rfl) ?_
    obtain ⟨⟨_r_5, M_6⟩, hq_7, h⟩ := ob h
    try dsimp only at h
    refine r_thenV hS (r_runV C hS hl.1 cv_X9_115 k0 (c_X9_putNamedInto l G F a0 52 M_3 k0 rfl _ hq_7) ⟨by decide, by decide⟩ rfl rfl (Nat.le_of_ble_eq_true rfl) ⟨Nat.zero_le _, Nat.zero_le _⟩ dX9_seekTwins_15) (fun H locs hS => ?_)
    refine lv_aload_n hx hb dX9_seekTwins_18 rfl (lv_at hl 2 rfl) ?_
    refine lv_aload_n hx hb dX9_seekTwins_19 rfl (lv_at hl 0 rfl) ?_
    refine lv_aload_n hx hb dX9_seekTwins_20 rfl (lv_at hl 1 rfl) ?_
    refine r_gI C hS fl_X9_46 rfl k0 dX9_seekTwins_21 ?_
    refine lv_aload_n hx hb dX9_seekTwins_24 rfl (lv_at hl 1 rfl) ?_
    refine r_gR C hS fl_X9_20 rfl k0 (zR_9_3 k0) dX9_seekTwins_25 ?_
    obtain ⟨⟨_r_8, M_9⟩, hq_10, h⟩ := ob h
    try dsimp only at h
    refine r_thenV hS (r_runV C hS hl.1 cv_X9_119 rfl (c_X5_sort l G F 52 (M_6.1 a0 1) (a0 + 3) M_6 rfl (zKr_9_3 k0) _ hq_10) ⟨by decide, by decide⟩ rfl rfl (Nat.le_of_ble_eq_true rfl) ⟨Nat.zero_le _, Nat.zero_le _⟩ dX9_seekTwins_28) (fun H locs hS => ?_)
    refine lv_aload_n hx hb dX9_seekTwins_31 rfl (lv_at hl 1 rfl) ?_
    refine lv_iconst (v := (-1)) hx hb dX9_seekTwins_32 (by decide) ?_
    obtain ⟨M_11, e_12, h⟩ := olt h
    refine r_pI C hS fp_X9_132 rfl k0 e_12 dX9_seekTwins_33 (fun H locs hS => ?_)
    refine lv_aload_n hx hb dX9_seekTwins_36 rfl (lv_at hl 1 rfl) ?_
    refine lv_iconst (v := (-1)) hx hb dX9_seekTwins_37 (by decide) ?_
    obtain ⟨M_13, e_14, h⟩ := olt h
    refine r_pI C hS fp_X9_135 rfl k0 e_14 dX9_seekTwins_38 (fun H locs hS => ?_)
    refine lv_aload_n hx hb dX9_seekTwins_41 rfl (lv_at hl 1 rfl) ?_
    refine lv_iconst (v := 0) hx hb dX9_seekTwins_42 (by decide) ?_
    obtain ⟨M_15, e_16, h⟩ := olt h
    refine r_pI C hS fp_X9_138 rfl k0 e_16 dX9_seekTwins_43 (fun H locs hS => ?_)
    refine lv_iconst (v := 0) hx hb dX9_seekTwins_46 (by decide) ?_
    refine lv_istore_n (lv' := [(3, .int 0), (2, .ref (G.1 + 52)), (0, .ref (G.1 + a0)), (1, .ref (G.1 + 50))]) hx hb dX9_seekTwins_47 rfl hl (by decide) rfl (fun ls hl => ?_)
    refine lv_iconst (v := 1) hx hb dX9_seekTwins_48 (by decide) ?_
    refine lv_istore (lv' := [(4, .int 1), (3, .int 0), (2, .ref (G.1 + 52)), (0, .ref (G.1 + a0)), (1, .ref (G.1 + 50))]) hx hb dX9_seekTwins_49 hl (by decide) rfl (fun ls hl => ?_)
    obtain ⟨⟨k_42, x3_39, x4_40, M_41⟩, hq_43, h⟩ := ob h
    try dsimp only at h
    refine loopW (E := (E_Ton_seekTwins_51 G p l e s m _ below meth c _ a0)) (w_Ton_seekTwins_B51 C a0 k0 F) F _ _ hq_43 ?_ _ _ _ hS (lv_sub hl [3, 2, 1, 0] rfl)
    by_cases ek_46 : k_42 = 1
    · replace h := ifp ek_46 h
      subst ek_46
      intro H locs ls hS hl
      refine lv_aload_n hx hb dX9_seekTwins_142 rfl (lv_at hl 0 rfl) ?_
      refine lv_iconst (v := 1) hx hb dX9_seekTwins_143 (by decide) ?_
      obtain ⟨M_44, e_45, h⟩ := olt h
      refine r_put C hS fp_X9_59 rfl (by decide) (by decide) k0 e_45 dX9_seekTwins_144 (fun H locs hS => ?_)
      exact r_vret C hS hr hlk h dX9_seekTwins_147
    · replace h := ifn ek_46 h
      cases h
  · replace h := ifn c_1 h
    exact r_vret C hS hr hlk h dX9_seekTwins_7
set_option maxHeartbeats 4000000 in
set_option maxRecDepth 100000 in
theorem c_X9_lesserTwin (l : Launch) (G : Gl) (F : Nat) (a0 : Nat) (M : zM) (k0 : zK a0 = 9) (q : Int32 × zM) (h : Ton_lesserTwin F a0 M = some q) : Met l yX9_lesserTwin (wsM yX9_lesserTwin cX9_lesserTwin 2 (some .int)) (rmM 5 137) (Pre G M [.ref (G.1 + a0), .ref (G.1 + 50)]) (PoI G q) 0 0 (gA G) := by
  refine r_met (own := RX9) rfl (by decide) (Nat.le_of_ble_eq_true rfl) ?_
  intro p e s m below meth c ls C hr hlk hS hl
  have hl : lv_has ls 2 [(0, .ref (G.1 + a0)), (1, .ref (G.1 + 50))] := hl
  obtain ⟨hx, hb, -⟩ := id C
  unfold Ton_lesserTwin at h
  refine lv_aload_n hx hb dX9_lesserTwin_0 rfl (lv_at hl 0 rfl) ?_
  refine lv_aload_n hx hb dX9_lesserTwin_1 rfl (lv_at hl 1 rfl) ?_
  obtain ⟨⟨_r_1, M_2⟩, hq_3, h⟩ := ob h
  try dsimp only at h
  refine r_thenV hS (r_runV C hS hl.1 cv_X9_129 k0 (c_X9_seekTwins l G F a0 M k0 _ hq_3) ⟨by decide, by decide⟩ rfl rfl (Nat.le_of_ble_eq_true rfl) ⟨Nat.zero_le _, Nat.zero_le _⟩ dX9_lesserTwin_2) (fun H locs hS => ?_)
  refine lv_aload_n hx hb dX9_lesserTwin_5 rfl (lv_at hl 0 rfl) ?_
  refine r_gI C hS fl_X9_132 rfl k0 dX9_lesserTwin_6 ?_
  exact r_iret C hS hr hlk h dX9_lesserTwin_9
set_option maxHeartbeats 4000000 in
set_option maxRecDepth 100000 in
theorem c_X9_greaterTwin (l : Launch) (G : Gl) (F : Nat) (a0 : Nat) (M : zM) (k0 : zK a0 = 9) (q : Int32 × zM) (h : Ton_greaterTwin F a0 M = some q) : Met l yX9_greaterTwin (wsM yX9_greaterTwin cX9_greaterTwin 2 (some .int)) (rmM 5 137) (Pre G M [.ref (G.1 + a0), .ref (G.1 + 50)]) (PoI G q) 0 0 (gA G) := by
  refine r_met (own := RX9) rfl (by decide) (Nat.le_of_ble_eq_true rfl) ?_
  intro p e s m below meth c ls C hr hlk hS hl
  have hl : lv_has ls 2 [(0, .ref (G.1 + a0)), (1, .ref (G.1 + 50))] := hl
  obtain ⟨hx, hb, -⟩ := id C
  unfold Ton_greaterTwin at h
  refine lv_aload_n hx hb dX9_greaterTwin_0 rfl (lv_at hl 0 rfl) ?_
  refine lv_aload_n hx hb dX9_greaterTwin_1 rfl (lv_at hl 1 rfl) ?_
  obtain ⟨⟨_r_1, M_2⟩, hq_3, h⟩ := ob h
  try dsimp only at h
  refine r_thenV hS (r_runV C hS hl.1 cv_X9_129 k0 (c_X9_seekTwins l G F a0 M k0 _ hq_3) ⟨by decide, by decide⟩ rfl rfl (Nat.le_of_ble_eq_true rfl) ⟨Nat.zero_le _, Nat.zero_le _⟩ dX9_greaterTwin_2) (fun H locs hS => ?_)
  refine lv_aload_n hx hb dX9_greaterTwin_5 rfl (lv_at hl 0 rfl) ?_
  refine r_gI C hS fl_X9_135 rfl k0 dX9_greaterTwin_6 ?_
  exact r_iret C hS hr hlk h dX9_greaterTwin_9
set_option maxHeartbeats 4000000 in
set_option maxRecDepth 100000 in
theorem c_X9_twinCount (l : Launch) (G : Gl) (F : Nat) (a0 : Nat) (M : zM) (k0 : zK a0 = 9) (q : Int32 × zM) (h : Ton_twinCount F a0 M = some q) : Met l yX9_twinCount (wsM yX9_twinCount cX9_twinCount 2 (some .int)) (rmM 5 137) (Pre G M [.ref (G.1 + a0), .ref (G.1 + 50)]) (PoI G q) 0 0 (gA G) := by
  refine r_met (own := RX9) rfl (by decide) (Nat.le_of_ble_eq_true rfl) ?_
  intro p e s m below meth c ls C hr hlk hS hl
  have hl : lv_has ls 2 [(0, .ref (G.1 + a0)), (1, .ref (G.1 + 50))] := hl
  obtain ⟨hx, hb, -⟩ := id C
  unfold Ton_twinCount at h
  refine lv_aload_n hx hb dX9_twinCount_0 rfl (lv_at hl 0 rfl) ?_
  refine lv_aload_n hx hb dX9_twinCount_1 rfl (lv_at hl 1 rfl) ?_
  obtain ⟨⟨_r_1, M_2⟩, hq_3, h⟩ := ob h
  try dsimp only at h
  refine r_thenV hS (r_runV C hS hl.1 cv_X9_129 k0 (c_X9_seekTwins l G F a0 M k0 _ hq_3) ⟨by decide, by decide⟩ rfl rfl (Nat.le_of_ble_eq_true rfl) ⟨Nat.zero_le _, Nat.zero_le _⟩ dX9_twinCount_2) (fun H locs hS => ?_)
  refine lv_aload_n hx hb dX9_twinCount_5 rfl (lv_at hl 0 rfl) ?_
  refine r_gI C hS fl_X9_138 rfl k0 dX9_twinCount_6 ?_
  exact r_iret C hS hr hlk h dX9_twinCount_9
def E_NW_feed_35 (G : Gl) (p : Program) (l : Launch) (e : Env) (s : State) (m : MethodId) (args : Array Value) (below : List Frame) (meth : Method) (c : Code) (Q : State → Prop) (x2 : Int64) : Nat → (Int32 × zM) → Prop := fun k (x4, M) => match k with
  | 0 => ∀ (H : Heap) (locs : List Loc) (ls : Array Slot), St G M s H locs → lv_has ls 5 [(0, .ref (G.1 + 0)), (2, .long x2), (4, .int x4)] → W p l e (rmM 1 21) s m args below meth c H locs 0 0 Q (F0 m 35 ls [])
  | 1 => ∀ (H : Heap) (locs : List Loc) (ls : Array Slot), St G M s H locs → lv_has ls 5 [(0, .ref (G.1 + 0))] → W p l e (rmM 1 21) s m args below meth c H locs 0 0 Q (F0 m 62 ls [])
  | _ => True
set_option maxHeartbeats 4000000 in
set_option maxRecDepth 100000 in
theorem w_NW_feed_B35 {G : Gl} {p : Program} {l : Launch} {e : Env} {s : State} {m : MethodId} {args : Array Value} {below : List Frame} {meth : Method} {c : Code} {Q : State → Prop} (C : Cx G cX10_feed 5 RX10 p s m args c) (x2 : Int64) (F : Nat) : ∀ (σ : (Int32 × zM)) (q : Nat × (Int32 × zM)), NW_feed_B35 F x2 σ = some q → (E_NW_feed_35 G p l e s m args below meth c Q x2) q.1 q.2 → (E_NW_feed_35 G p l e s m args below meth c Q x2) 0 σ := by
  intro (x4, M) q h hE H locs ls hS hl
  obtain ⟨hx, hb, -⟩ := id C
  unfold NW_feed_B35 at h
  try dsimp only at h
  refine lv_iload hx hb dX10_feed_35 (lv_at hl 2 rfl) ?_
  refine lv_if_lt (tgt := 62) hx hb dX10_feed_37 (by decide) (fun c_9 => ?_) (fun c_9 => ?_)
  · replace h := ifp c_9 h
    obtain rfl := Option.some.inj h
    exact hE _ _ _ hS (lv_sub hl [0] rfl)
  · replace h := ifn c_9 h
    refine lv_aload_n hx hb dX10_feed_40 rfl (lv_at hl 0 rfl) ?_
    refine r_gR C hS fl_X10_10 rfl rfl rfl dX10_feed_41 ?_
    refine lv_lload_n hx hb dX10_feed_44 rfl (lv_at hl 1 rfl) ?_
    refine lv_bipush (v := 8) hx hb dX10_feed_45 (by decide) ?_
    refine lv_iload hx hb dX10_feed_47 (lv_at hl 2 rfl) ?_
    refine lv_imul hx hb dX10_feed_49 ?_
    refine lv_lshr (v := sr x2 (8 * x4)) hx hb dX10_feed_50 rfl ?_
    refine lv_l2i (v := (sr x2 (8 * x4)).toInt32) hx hb dX10_feed_51 rfl ?_
    refine lv_i2b (v := ((sr x2 (8 * x4)).toInt32).toInt8.toInt32) hx hb dX10_feed_52 rfl ?_
    obtain ⟨⟨_r_10, M_11⟩, hq_12, h⟩ := ob h
    try dsimp only at h
    refine r_thenV hS (r_runV C hS hl.1 cv_X10_92 rfl (c_X8_append l G F (((sr x2 (8 * x4)).toInt32).toInt8.toInt32) M  _ hq_12) ⟨by decide, by decide⟩ rfl rfl (Nat.le_of_ble_eq_true rfl) ⟨Nat.zero_le _, Nat.zero_le _⟩ dX10_feed_53) (fun H locs hS => ?_)
    obtain ⟨x4_13, e_14, h⟩ := olt h
    refine lv_iinc (v := x4_13) (lv' := [(4, .int x4_13), (0, .ref (G.1 + 0)), (2, .long x2)]) hx hb dX10_feed_56 hl (k := 2) rfl (by rw [e_14]; rfl) (by decide) rfl (fun ls hl => ?_)
    refine lv_goto (tgt := 35) hx hb dX10_feed_59 (by decide) ?_
    obtain rfl := Option.some.inj h
    exact hE _ _ _ hS (lv_sub hl [1, 2, 0] rfl)
set_option maxHeartbeats 4000000 in
set_option maxRecDepth 100000 in
theorem c_X10_feed (l : Launch) (G : Gl) (F : Nat) (x1 : Int32) (x2 : Int64) (M : zM)  (q : Int32 × zM) (h : NW_feed F x1 x2 M = some q) : Met l yX10_feed (wsM yX10_feed cX10_feed 5 (some .int)) (rmM 1 21) (Pre G M [.ref (G.1 + 0), .int x1, .long x2]) (PoI G q) 0 0 (gA G) := by
  refine r_met (own := RX10) rfl (by decide) (Nat.le_of_ble_eq_true rfl) ?_
  intro p e s m below meth c ls C hr hlk hS hl
  have hl : lv_has ls 5 [(0, .ref (G.1 + 0)), (1, .int x1), (2, .long x2)] := hl
  obtain ⟨hx, hb, -⟩ := id C
  unfold NW_feed at h
  refine lv_iload_n hx hb dX10_feed_0 rfl (lv_at hl 1 rfl) ?_
  refine lv_iconst (v := 1) hx hb dX10_feed_1 (by decide) ?_
  refine lv_icmp_lt (tgt := 11) hx hb dX10_feed_2 (by decide) (fun c_1 => ?_) (fun c_1 => ?_)
  · replace h := ifp c_1 h
    refine lv_sipush (v := (-1002)) hx hb dX10_feed_11 (by decide) ?_
    exact r_iret C hS hr hlk h dX10_feed_14
  · replace h := ifn c_1 h
    refine lv_iload_n hx hb dX10_feed_5 rfl (lv_at hl 1 rfl) ?_
    refine lv_bipush (v := 8) hx hb dX10_feed_6 (by decide) ?_
    refine lv_icmp_le (tgt := 15) hx hb dX10_feed_8 (by decide) (fun c_2 => ?_) (fun c_2 => ?_)
    · replace h := ifp c_2 h
      refine lv_aload_n hx hb dX10_feed_15 rfl (lv_at hl 0 rfl) ?_
      refine r_gR C hS fl_X10_10 rfl rfl rfl dX10_feed_16 ?_
      refine lv_iload_n hx hb dX10_feed_19 rfl (lv_at hl 1 rfl) ?_
      obtain ⟨⟨r_3, M_4⟩, hq_5, h⟩ := ob h
      try dsimp only at h
      refine r_thenI hS (r_runV C hS hl.1 cv_X10_88 rfl (c_X8_hasRoomFor l G F x1 M  _ hq_5) ⟨by decide, by decide⟩ rfl rfl (Nat.le_of_ble_eq_true rfl) ⟨Nat.zero_le _, Nat.zero_le _⟩ dX10_feed_20) (fun H locs hS => ?_)
      refine lv_if_ne (tgt := 30) hx hb dX10_feed_23 (by decide) (fun c_6 => ?_) (fun c_6 => ?_)
      · replace h := ifn c_6 h
        refine lv_iload_n hx hb dX10_feed_30 rfl (lv_at hl 1 rfl) ?_
        refine lv_iconst (v := 1) hx hb dX10_feed_31 (by decide) ?_
        refine lv_isub hx hb dX10_feed_32 ?_
        obtain ⟨x4_7, e_8, h⟩ := olt h
        refine r_nI e_8 ?_
        refine lv_istore (lv' := [(4, .int x4_7), (0, .ref (G.1 + 0)), (1, .int x1), (2, .long x2)]) hx hb dX10_feed_33 hl (by decide) rfl (fun ls hl => ?_)
        obtain ⟨⟨k_17, x4_15, M_16⟩, hq_18, h⟩ := ob h
        try dsimp only at h
        refine loopW (E := (E_NW_feed_35 G p l e s m _ below meth c _ x2)) (w_NW_feed_B35 C x2 F) F _ _ hq_18 ?_ _ _ _ hS (lv_sub hl [1, 3, 0] rfl)
        by_cases ek_22 : k_17 = 1
        · replace h := ifp ek_22 h
          subst ek_22
          intro H locs ls hS hl
          refine lv_aload_n hx hb dX10_feed_62 rfl (lv_at hl 0 rfl) ?_
          refine r_gR C hS fl_X10_10 rfl rfl rfl dX10_feed_63 ?_
          obtain ⟨⟨r_19, M_20⟩, hq_21, h⟩ := ob h
          try dsimp only at h
          refine r_thenI hS (r_runV C hS hl.1 cv_X10_96 rfl (c_X8_size l G F  M_16  _ hq_21) ⟨by decide, by decide⟩ rfl rfl (Nat.le_of_ble_eq_true rfl) ⟨Nat.zero_le _, Nat.zero_le _⟩ dX10_feed_66) (fun H locs hS => ?_)
          exact r_iret C hS hr hlk h dX10_feed_69
        · replace h := ifn ek_22 h
          cases h
      · replace h := ifp c_6 h
        refine lv_sipush (v := (-1004)) hx hb dX10_feed_26 (by decide) ?_
        exact r_iret C hS hr hlk h dX10_feed_29
    · replace h := ifn c_2 h
      refine lv_sipush (v := (-1002)) hx hb dX10_feed_11 (by decide) ?_
      exact r_iret C hS hr hlk h dX10_feed_14
set_option maxHeartbeats 4000000 in
set_option maxRecDepth 100000 in
theorem c_X10_isTongue (l : Launch) (G : Gl) (F : Nat) (x0 : Int32) (M : zM)  (q : Int32 × zM) (h : NW_isTongue F x0 M = some q) : Met l yX10_isTongue (wsM yX10_isTongue cX10_isTongue 1 (some .boolean)) (rmM 0 0) (Pre G M [.int x0]) (PoI G q) 0 0 (gA G) := by
  refine r_met (own := RX10) rfl (by decide) (Nat.le_of_ble_eq_true rfl) ?_
  intro p e s m below meth c ls C hr hlk hS hl
  have hl : lv_has ls 1 [(0, .int x0)] := hl
  obtain ⟨hx, hb, -⟩ := id C
  unfold NW_isTongue at h
  refine lv_iload_n hx hb dX10_isTongue_0 rfl (lv_at hl 0 rfl) ?_
  refine lv_if_lt (tgt := 13) hx hb dX10_isTongue_1 (by decide) (fun c_1 => ?_) (fun c_1 => ?_)
  · replace h := ifp c_1 h
    refine lv_iconst (v := 0) hx hb dX10_isTongue_13 (by decide) ?_
    exact r_zret C hS hr hlk h dX10_isTongue_14
  · replace h := ifn c_1 h
    refine lv_iload_n hx hb dX10_isTongue_4 rfl (lv_at hl 0 rfl) ?_
    refine lv_iconst (v := 3) hx hb dX10_isTongue_5 (by decide) ?_
    refine lv_icmp_ge (tgt := 13) hx hb dX10_isTongue_6 (by decide) (fun c_2 => ?_) (fun c_2 => ?_)
    · replace h := ifp c_2 h
      refine lv_iconst (v := 0) hx hb dX10_isTongue_13 (by decide) ?_
      exact r_zret C hS hr hlk h dX10_isTongue_14
    · replace h := ifn c_2 h
      refine lv_iconst (v := 1) hx hb dX10_isTongue_9 (by decide) ?_
      refine lv_goto (tgt := 14) hx hb dX10_isTongue_10 (by decide) ?_
      exact r_zret C hS hr hlk h dX10_isTongue_14
set_option maxHeartbeats 4000000 in
set_option maxRecDepth 100000 in
theorem w_NW_read_J36 {G : Gl} {p : Program} {l : Launch} {e : Env} {s : State} {m : MethodId} {args : Array Value} {below : List Frame} {meth : Method} {c : Code} (C : Cx G cX10_read 3 RX10 p s m args c) (hr : meth.sig.returnType = (some .int)) (hlk : meth.locks = false) (F : Nat) (x2 : Int32) (M : zM)  (q : Int32 × zM) (h : NW_read_J36 F x2 M = some q) (H : Heap) (locs : List Loc) (ls : Array Slot) (hS : St G M s H locs) (hl : lv_has ls 3 [(0, .ref (G.1 + 0)), (2, .int x2)]) : W p l e (rmM 9 193) s m args below meth c H locs 0 0 (MQ below (PoI G q) args s 0 0 (gA G)) (F0 m 36 ls []) := by
  obtain ⟨hx, hb, -⟩ := id C
  unfold NW_read_J36 at h
  refine lv_aload_n hx hb dX10_read_36 rfl (lv_at hl 0 rfl) ?_
  refine r_gR C hS fl_X10_10 rfl rfl rfl dX10_read_37 ?_
  obtain ⟨⟨_r_9, M_10⟩, hq_11, h⟩ := ob h
  try dsimp only at h
  refine r_thenV hS (r_runV C hS hl.1 cv_X10_111 rfl (c_X8_empty l G F  M  _ hq_11) ⟨by decide, by decide⟩ rfl rfl (Nat.le_of_ble_eq_true rfl) ⟨Nat.zero_le _, Nat.zero_le _⟩ dX10_read_40) (fun H locs hS => ?_)
  refine lv_iload_n hx hb dX10_read_43 rfl (lv_at hl 1 rfl) ?_
  refine lv_if_eq (tgt := 57) hx hb dX10_read_44 (by decide) (fun c_12 => ?_) (fun c_12 => ?_)
  · replace h := ifp c_12 h
    refine lv_bipush (v := (-10)) hx hb dX10_read_57 (by decide) ?_
    refine lv_aload_n hx hb dX10_read_59 rfl (lv_at hl 0 rfl) ?_
    refine r_gR C hS fl_X10_28 rfl rfl rfl dX10_read_60 ?_
    obtain ⟨⟨r_13, M_14⟩, hq_15, h⟩ := ob h
    try dsimp only at h
    refine r_thenI hS (r_runV C hS hl.1 cv_X10_117 rfl (c_X2_faultNumber l G F  M_10  _ hq_15) ⟨by decide, by decide⟩ rfl rfl (Nat.le_of_ble_eq_true rfl) ⟨Nat.zero_le _, Nat.zero_le _⟩ dX10_read_63) (fun H locs hS => ?_)
    refine lv_isub hx hb dX10_read_66 ?_
    exact r_iret C hS hr hlk h dX10_read_67
  · replace h := ifn c_12 h
    refine lv_aload_n hx hb dX10_read_47 rfl (lv_at hl 0 rfl) ?_
    refine r_gR C hS fl_X10_19 rfl rfl rfl dX10_read_48 ?_
    obtain ⟨⟨r_16, M_17⟩, hq_18, h⟩ := ob h
    try dsimp only at h
    refine r_thenI hS (r_runV C hS hl.1 cv_X10_114 rfl (c_X0_count l G F  M_10  _ hq_18) ⟨by decide, by decide⟩ rfl rfl (Nat.le_of_ble_eq_true rfl) ⟨Nat.zero_le _, Nat.zero_le _⟩ dX10_read_51) (fun H locs hS => ?_)
    refine lv_goto (tgt := 67) hx hb dX10_read_54 (by decide) ?_
    exact r_iret C hS hr hlk h dX10_read_67
set_option maxHeartbeats 4000000 in
set_option maxRecDepth 100000 in
theorem c_X10_read (l : Launch) (G : Gl) (F : Nat) (x1 : Int32) (M : zM)  (q : Int32 × zM) (h : NW_read F x1 M = some q) : Met l yX10_read (wsM yX10_read cX10_read 3 (some .int)) (rmM 9 193) (Pre G M [.ref (G.1 + 0), .int x1]) (PoI G q) 0 0 (gA G) := by
  refine r_met (own := RX10) rfl (by decide) (Nat.le_of_ble_eq_true rfl) ?_
  intro p e s m below meth c ls C hr hlk hS hl
  have hl : lv_has ls 3 [(0, .ref (G.1 + 0)), (1, .int x1)] := hl
  obtain ⟨hx, hb, -⟩ := id C
  unfold NW_read at h
  refine lv_iload_n hx hb dX10_read_0 rfl (lv_at hl 1 rfl) ?_
  obtain ⟨⟨r_1, M_2⟩, hq_3, h⟩ := ob h
  try dsimp only at h
  refine r_thenI hS (r_runS C hS hl.1 cs_X10_100 (c_X10_isTongue l G F x1 M  _ hq_3) ⟨by decide, by decide⟩ rfl rfl (Nat.le_of_ble_eq_true rfl) ⟨Nat.zero_le _, Nat.zero_le _⟩ dX10_read_1) (fun H locs hS => ?_)
  refine lv_if_ne (tgt := 11) hx hb dX10_read_4 (by decide) (fun c_4 => ?_) (fun c_4 => ?_)
  · replace h := ifn c_4 h
    refine lv_aload_n hx hb dX10_read_11 rfl (lv_at hl 0 rfl) ?_
    refine r_gR C hS fl_X10_28 rfl rfl rfl dX10_read_12 ?_
    obtain ⟨⟨r_5, M_6⟩, hq_7, h⟩ := ob h
    try dsimp only at h
    refine r_thenI hS (r_runV C hS hl.1 cv_X10_103 rfl (c_X2_parse l G F  M_2  _ hq_7) ⟨by decide, by decide⟩ rfl rfl (Nat.le_of_ble_eq_true rfl) ⟨Nat.zero_le _, Nat.zero_le _⟩ dX10_read_15) (fun H locs hS => ?_)
    refine lv_istore_n (lv' := [(2, .int r_5), (0, .ref (G.1 + 0)), (1, .int x1)]) hx hb dX10_read_18 rfl hl (by decide) rfl (fun ls hl => ?_)
    refine lv_iload_n hx hb dX10_read_19 rfl (lv_at hl 0 rfl) ?_
    refine lv_if_eq (tgt := 36) hx hb dX10_read_20 (by decide) (fun c_8 => ?_) (fun c_8 => ?_)
    · replace h := ifp c_8 h
      exact w_NW_read_J36 C hr hlk F r_5 M_6  q h _ _ _ hS (lv_sub hl [1, 0] rfl)
    · replace h := ifn c_8 h
      refine lv_aload_n hx hb dX10_read_23 rfl (lv_at hl 1 rfl) ?_
      refine r_gR C hS fl_X10_44 rfl rfl rfl dX10_read_24 ?_
      refine lv_aload_n hx hb dX10_read_27 rfl (lv_at hl 1 rfl) ?_
      refine r_gR C hS fl_X10_34 rfl rfl rfl dX10_read_28 ?_
      refine lv_iload_n hx hb dX10_read_31 rfl (lv_at hl 2 rfl) ?_
      obtain ⟨b_19, h⟩ := ift h
      refine r_aald C hS rfl rfl b_19 (zR_13 b_19) dX10_read_32 ?_
      obtain ⟨⟨_r_20, M_21⟩, hq_22, h⟩ := ob h
      try dsimp only at h
      refine r_thenV hS (r_runV C hS hl.1 cv_X10_107 rfl (c_X4_nameAll l G F (tgA x1) M_6 (zK_13 b_19) _ hq_22) ⟨by decide, by decide⟩ rfl rfl (Nat.le_of_ble_eq_true rfl) ⟨Nat.zero_le _, Nat.zero_le _⟩ dX10_read_33) (fun H locs hS => ?_)
      exact w_NW_read_J36 C hr hlk F r_5 M_21  q h _ _ _ hS (lv_sub hl [1, 0] rfl)
  · replace h := ifp c_4 h
    refine lv_sipush (v := (-1001)) hx hb dX10_read_7 (by decide) ?_
    exact r_iret C hS hr hlk h dX10_read_10
set_option maxHeartbeats 4000000 in
set_option maxRecDepth 100000 in
theorem c_X10_fault (l : Launch) (G : Gl) (F : Nat)  (M : zM)  (q : Int32 × zM) (h : NW_fault F  M = some q) : Met l yX10_fault (wsM yX10_fault cX10_fault 1 (some .int)) (rmM 1 20) (Pre G M [.ref (G.1 + 0)]) (PoI G q) 0 0 (gA G) := by
  refine r_met (own := RX10) rfl (by decide) (Nat.le_of_ble_eq_true rfl) ?_
  intro p e s m below meth c ls C hr hlk hS hl
  have hl : lv_has ls 1 [(0, .ref (G.1 + 0))] := hl
  obtain ⟨hx, hb, -⟩ := id C
  unfold NW_fault at h
  refine lv_aload_n hx hb dX10_fault_0 rfl (lv_at hl 0 rfl) ?_
  refine r_gR C hS fl_X10_28 rfl rfl rfl dX10_fault_1 ?_
  obtain ⟨⟨r_1, M_2⟩, hq_3, h⟩ := ob h
  try dsimp only at h
  refine r_thenI hS (r_runV C hS hl.1 cv_X10_120 rfl (c_X2_faultByte l G F  M  _ hq_3) ⟨by decide, by decide⟩ rfl rfl (Nat.le_of_ble_eq_true rfl) ⟨Nat.zero_le _, Nat.zero_le _⟩ dX10_fault_4) (fun H locs hS => ?_)
  exact r_iret C hS hr hlk h dX10_fault_7
set_option maxHeartbeats 4000000 in
set_option maxRecDepth 100000 in
theorem c_X10_about (l : Launch) (G : Gl) (F : Nat) (x1 : Int32) (x2 : Int32) (M : zM)  (q : Int32 × zM) (h : NW_about F x1 x2 M = some q) : Met l yX10_about (wsM yX10_about cX10_about 4 (some .int)) (rmM 3 64) (Pre G M [.ref (G.1 + 0), .int x1, .int x2]) (PoI G q) 0 0 (gA G) := by
  refine r_met (own := RX10) rfl (by decide) (Nat.le_of_ble_eq_true rfl) ?_
  intro p e s m below meth c ls C hr hlk hS hl
  have hl : lv_has ls 4 [(0, .ref (G.1 + 0)), (1, .int x1), (2, .int x2)] := hl
  obtain ⟨hx, hb, -⟩ := id C
  unfold NW_about at h
  refine lv_iload_n hx hb dX10_about_0 rfl (lv_at hl 1 rfl) ?_
  obtain ⟨⟨r_1, M_2⟩, hq_3, h⟩ := ob h
  try dsimp only at h
  refine r_thenI hS (r_runS C hS hl.1 cs_X10_100 (c_X10_isTongue l G F x1 M  _ hq_3) ⟨by decide, by decide⟩ rfl rfl (Nat.le_of_ble_eq_true rfl) ⟨Nat.zero_le _, Nat.zero_le _⟩ dX10_about_1) (fun H locs hS => ?_)
  refine lv_if_ne (tgt := 11) hx hb dX10_about_4 (by decide) (fun c_4 => ?_) (fun c_4 => ?_)
  · replace h := ifn c_4 h
    refine lv_aload_n hx hb dX10_about_11 rfl (lv_at hl 0 rfl) ?_
    refine r_gR C hS fl_X10_34 rfl rfl rfl dX10_about_12 ?_
    refine lv_iload_n hx hb dX10_about_15 rfl (lv_at hl 1 rfl) ?_
    obtain ⟨b_5, h⟩ := ift h
    refine r_aald C hS rfl rfl b_5 (zR_13 b_5) dX10_about_16 ?_
    refine lv_astore_n (lv' := [(3, .ref (G.1 + tgA x1)), (0, .ref (G.1 + 0)), (1, .int x1), (2, .int x2)]) hx hb dX10_about_17 rfl hl (by decide) rfl (fun ls hl => ?_)
    refine lv_iload_n hx hb dX10_about_18 rfl (lv_at hl 3 rfl) ?_
    by_cases c_6 : x2 = 0
    · replace h := ifp c_6 h
      refine r_nI c_6.symm ?_
      refine lv_tableIn (tgt := 60) (off := 41) hx hb dX10_about_19 (by decide) (by decide) (by decide) (by decide) ?_
      refine lv_aload_n hx hb dX10_about_60 rfl (lv_at hl 0 rfl) ?_
      obtain ⟨⟨r_31, M_32⟩, hq_33, h⟩ := ob h
      try dsimp only at h
      refine r_thenI hS (r_runV C hS hl.1 cv_X10_123 (zK_13 b_5) (c_X9_clauseCount l G F (tgA x1) M_2 (zK_13 b_5) _ hq_33) ⟨by decide, by decide⟩ rfl rfl (Nat.le_of_ble_eq_true rfl) ⟨Nat.zero_le _, Nat.zero_le _⟩ dX10_about_61) (fun H locs hS => ?_)
      exact r_iret C hS hr hlk h dX10_about_64
    · replace h := ifn c_6 h
      by_cases c_7 : x2 = 1
      · replace h := ifp c_7 h
        refine r_nI c_7.symm ?_
        refine lv_tableIn (tgt := 65) (off := 46) hx hb dX10_about_19 (by decide) (by decide) (by decide) (by decide) ?_
        refine lv_aload_n hx hb dX10_about_65 rfl (lv_at hl 0 rfl) ?_
        obtain ⟨⟨r_28, M_29⟩, hq_30, h⟩ := ob h
        try dsimp only at h
        refine r_thenI hS (r_runV C hS hl.1 cv_X10_126 (zK_13 b_5) (c_X9_namedCount l G F (tgA x1) M_2 (zK_13 b_5) _ hq_30) ⟨by decide, by decide⟩ rfl rfl (Nat.le_of_ble_eq_true rfl) ⟨Nat.zero_le _, Nat.zero_le _⟩ dX10_about_66) (fun H locs hS => ?_)
        exact r_iret C hS hr hlk h dX10_about_69
      · replace h := ifn c_7 h
        by_cases c_8 : x2 = 2
        · replace h := ifp c_8 h
          refine r_nI c_8.symm ?_
          refine lv_tableIn (tgt := 70) (off := 51) hx hb dX10_about_19 (by decide) (by decide) (by decide) (by decide) ?_
          refine lv_aload_n hx hb dX10_about_70 rfl (lv_at hl 0 rfl) ?_
          obtain ⟨⟨r_25, M_26⟩, hq_27, h⟩ := ob h
          try dsimp only at h
          refine r_thenI hS (r_runV C hS hl.1 cv_X10_129 (zK_13 b_5) (c_X9_greatestNamed l G F (tgA x1) M_2 (zK_13 b_5) _ hq_27) ⟨by decide, by decide⟩ rfl rfl (Nat.le_of_ble_eq_true rfl) ⟨Nat.zero_le _, Nat.zero_le _⟩ dX10_about_71) (fun H locs hS => ?_)
          exact r_iret C hS hr hlk h dX10_about_74
        · replace h := ifn c_8 h
          by_cases c_9 : x2 = 3
          · replace h := ifp c_9 h
            refine r_nI c_9.symm ?_
            refine lv_tableIn (tgt := 75) (off := 56) hx hb dX10_about_19 (by decide) (by decide) (by decide) (by decide) ?_
            refine lv_aload_n hx hb dX10_about_75 rfl (lv_at hl 0 rfl) ?_
            obtain ⟨⟨r_22, M_23⟩, hq_24, h⟩ := ob h
            try dsimp only at h
            refine r_thenI hS (r_runV C hS hl.1 cv_X10_132 (zK_13 b_5) (c_X9_leastNameless l G F (tgA x1) M_2 (zK_13 b_5) _ hq_24) ⟨by decide, by decide⟩ rfl rfl (Nat.le_of_ble_eq_true rfl) ⟨Nat.zero_le _, Nat.zero_le _⟩ dX10_about_76) (fun H locs hS => ?_)
            exact r_iret C hS hr hlk h dX10_about_79
          · replace h := ifn c_9 h
            by_cases c_10 : x2 = 4
            · replace h := ifp c_10 h
              refine r_nI c_10.symm ?_
              refine lv_tableIn (tgt := 80) (off := 61) hx hb dX10_about_19 (by decide) (by decide) (by decide) (by decide) ?_
              refine lv_aload_n hx hb dX10_about_80 rfl (lv_at hl 0 rfl) ?_
              obtain ⟨⟨r_19, M_20⟩, hq_21, h⟩ := ob h
              try dsimp only at h
              refine r_thenI hS (r_runV C hS hl.1 cv_X10_135 (zK_13 b_5) (c_X9_honestCount l G F (tgA x1) M_2 (zK_13 b_5) _ hq_21) ⟨by decide, by decide⟩ rfl rfl (Nat.le_of_ble_eq_true rfl) ⟨Nat.zero_le _, Nat.zero_le _⟩ dX10_about_81) (fun H locs hS => ?_)
              exact r_iret C hS hr hlk h dX10_about_84
            · replace h := ifn c_10 h
              by_cases c_11 : x2 = 5
              · replace h := ifp c_11 h
                refine r_nI c_11.symm ?_
                refine lv_tableIn (tgt := 85) (off := 66) hx hb dX10_about_19 (by decide) (by decide) (by decide) (by decide) ?_
                refine lv_aload_n hx hb dX10_about_85 rfl (lv_at hl 1 rfl) ?_
                refine r_gR C hS fl_X10_10 rfl rfl rfl dX10_about_86 ?_
                obtain ⟨⟨r_16, M_17⟩, hq_18, h⟩ := ob h
                try dsimp only at h
                refine r_thenI hS (r_runV C hS hl.1 cv_X10_96 rfl (c_X8_size l G F  M_2  _ hq_18) ⟨by decide, by decide⟩ rfl rfl (Nat.le_of_ble_eq_true rfl) ⟨Nat.zero_le _, Nat.zero_le _⟩ dX10_about_89) (fun H locs hS => ?_)
                exact r_iret C hS hr hlk h dX10_about_92
              · replace h := ifn c_11 h
                by_cases c_12 : x2 = 6
                · replace h := ifp c_12 h
                  refine r_nI c_12.symm ?_
                  refine lv_tableIn (tgt := 93) (off := 74) hx hb dX10_about_19 (by decide) (by decide) (by decide) (by decide) ?_
                  refine lv_aload_n hx hb dX10_about_93 rfl (lv_at hl 1 rfl) ?_
                  refine r_gR C hS fl_X10_58 rfl rfl rfl dX10_about_94 ?_
                  obtain ⟨⟨r_13, M_14⟩, hq_15, h⟩ := ob h
                  try dsimp only at h
                  refine r_thenI hS (r_runV C hS hl.1 cv_X10_138 rfl (c_X3_size l G F 53 M_2 rfl _ hq_15) ⟨by decide, by decide⟩ rfl rfl (Nat.le_of_ble_eq_true rfl) ⟨Nat.zero_le _, Nat.zero_le _⟩ dX10_about_97) (fun H locs hS => ?_)
                  exact r_iret C hS hr hlk h dX10_about_100
                · replace h := ifn c_12 h
                  refine lv_tableOut (tgt := 101) hx hb dX10_about_19 (by have := ne_toInt c_6 (n := 0) (by decide); have := ne_toInt c_7 (n := 1) (by decide); have := ne_toInt c_8 (n := 2) (by decide); have := ne_toInt c_9 (n := 3) (by decide); have := ne_toInt c_10 (n := 4) (by decide); have := ne_toInt c_11 (n := 5) (by decide); have := ne_toInt c_12 (n := 6) (by decide); omega) (by decide) ?_
                  refine lv_sipush (v := (-1002)) hx hb dX10_about_101 (by decide) ?_
                  exact r_iret C hS hr hlk h dX10_about_104
  · replace h := ifp c_4 h
    refine lv_sipush (v := (-1001)) hx hb dX10_about_7 (by decide) ?_
    exact r_iret C hS hr hlk h dX10_about_10
set_option maxHeartbeats 4000000 in
set_option maxRecDepth 100000 in
theorem c_X10_isNumber (l : Launch) (G : Gl) (F : Nat) (x0 : Int32) (M : zM)  (q : Int32 × zM) (h : NW_isNumber F x0 M = some q) : Met l yX10_isNumber (wsM yX10_isNumber cX10_isNumber 1 (some .boolean)) (rmM 0 0) (Pre G M [.int x0]) (PoI G q) 0 0 (gA G) := by
  refine r_met (own := RX10) rfl (by decide) (Nat.le_of_ble_eq_true rfl) ?_
  intro p e s m below meth c ls C hr hlk hS hl
  have hl : lv_has ls 1 [(0, .int x0)] := hl
  obtain ⟨hx, hb, -⟩ := id C
  unfold NW_isNumber at h
  refine lv_iload_n hx hb dX10_isNumber_0 rfl (lv_at hl 0 rfl) ?_
  refine lv_if_lt (tgt := 15) hx hb dX10_isNumber_1 (by decide) (fun c_1 => ?_) (fun c_1 => ?_)
  · replace h := ifp c_1 h
    refine lv_iconst (v := 0) hx hb dX10_isNumber_15 (by decide) ?_
    exact r_zret C hS hr hlk h dX10_isNumber_16
  · replace h := ifn c_1 h
    refine lv_iload_n hx hb dX10_isNumber_4 rfl (lv_at hl 0 rfl) ?_
    refine lv_sipush (v := 1000) hx hb dX10_isNumber_5 (by decide) ?_
    refine lv_icmp_ge (tgt := 15) hx hb dX10_isNumber_8 (by decide) (fun c_2 => ?_) (fun c_2 => ?_)
    · replace h := ifp c_2 h
      refine lv_iconst (v := 0) hx hb dX10_isNumber_15 (by decide) ?_
      exact r_zret C hS hr hlk h dX10_isNumber_16
    · replace h := ifn c_2 h
      refine lv_iconst (v := 1) hx hb dX10_isNumber_11 (by decide) ?_
      refine lv_goto (tgt := 16) hx hb dX10_isNumber_12 (by decide) ?_
      exact r_zret C hS hr hlk h dX10_isNumber_16
set_option maxHeartbeats 4000000 in
set_option maxRecDepth 100000 in
theorem c_X10_name (l : Launch) (G : Gl) (F : Nat) (x1 : Int32) (x2 : Int32) (x3 : Int32) (M : zM)  (q : Int32 × zM) (h : NW_name F x1 x2 x3 M = some q) : Met l yX10_name (wsM yX10_name cX10_name 4 (some .int)) (rmM 3 69) (Pre G M [.ref (G.1 + 0), .int x1, .int x2, .int x3]) (PoI G q) 0 0 (gA G) := by
  refine r_met (own := RX10) rfl (by decide) (Nat.le_of_ble_eq_true rfl) ?_
  intro p e s m below meth c ls C hr hlk hS hl
  have hl : lv_has ls 4 [(0, .ref (G.1 + 0)), (1, .int x1), (2, .int x2), (3, .int x3)] := hl
  obtain ⟨hx, hb, -⟩ := id C
  unfold NW_name at h
  refine lv_iload_n hx hb dX10_name_0 rfl (lv_at hl 1 rfl) ?_
  obtain ⟨⟨r_1, M_2⟩, hq_3, h⟩ := ob h
  try dsimp only at h
  refine r_thenI hS (r_runS C hS hl.1 cs_X10_100 (c_X10_isTongue l G F x1 M  _ hq_3) ⟨by decide, by decide⟩ rfl rfl (Nat.le_of_ble_eq_true rfl) ⟨Nat.zero_le _, Nat.zero_le _⟩ dX10_name_1) (fun H locs hS => ?_)
  refine lv_if_eq (tgt := 14) hx hb dX10_name_4 (by decide) (fun c_4 => ?_) (fun c_4 => ?_)
  · replace h := ifp c_4 h
    refine lv_sipush (v := (-1001)) hx hb dX10_name_14 (by decide) ?_
    exact r_iret C hS hr hlk h dX10_name_17
  · replace h := ifn c_4 h
    refine lv_iload_n hx hb dX10_name_7 rfl (lv_at hl 2 rfl) ?_
    obtain ⟨⟨r_5, M_6⟩, hq_7, h⟩ := ob h
    try dsimp only at h
    refine r_thenI hS (r_runS C hS hl.1 cs_X10_139 (c_X10_isNumber l G F x2 M_2  _ hq_7) ⟨by decide, by decide⟩ rfl rfl (Nat.le_of_ble_eq_true rfl) ⟨Nat.zero_le _, Nat.zero_le _⟩ dX10_name_8) (fun H locs hS => ?_)
    refine lv_if_ne (tgt := 18) hx hb dX10_name_11 (by decide) (fun c_8 => ?_) (fun c_8 => ?_)
    · replace h := ifn c_8 h
      refine lv_aload_n hx hb dX10_name_18 rfl (lv_at hl 0 rfl) ?_
      refine r_gR C hS fl_X10_34 rfl rfl rfl dX10_name_19 ?_
      refine lv_iload_n hx hb dX10_name_22 rfl (lv_at hl 1 rfl) ?_
      obtain ⟨b_9, h⟩ := ift h
      refine r_aald C hS rfl rfl b_9 (zR_13 b_9) dX10_name_23 ?_
      refine lv_iload_n hx hb dX10_name_24 rfl (lv_at hl 2 rfl) ?_
      refine lv_iload_n hx hb dX10_name_25 rfl (lv_at hl 3 rfl) ?_
      obtain ⟨⟨r_10, M_11⟩, hq_12, h⟩ := ob h
      try dsimp only at h
      refine r_thenI hS (r_runV C hS hl.1 cv_X10_142 (zK_13 b_9) (c_X9_sizeOrByte l G F (tgA x1) x2 x3 M_6 (zK_13 b_9) _ hq_12) ⟨by decide, by decide⟩ rfl rfl (Nat.le_of_ble_eq_true rfl) ⟨Nat.zero_le _, Nat.zero_le _⟩ dX10_name_26) (fun H locs hS => ?_)
      exact r_iret C hS hr hlk h dX10_name_29
    · replace h := ifp c_8 h
      refine lv_sipush (v := (-1001)) hx hb dX10_name_14 (by decide) ?_
      exact r_iret C hS hr hlk h dX10_name_17
set_option maxHeartbeats 4000000 in
set_option maxRecDepth 100000 in
theorem c_X10_letters (l : Launch) (G : Gl) (F : Nat) (x1 : Int32) (x2 : Int32) (M : zM)  (q : Int32 × zM) (h : NW_letters F x1 x2 M = some q) : Met l yX10_letters (wsM yX10_letters cX10_letters 3 (some .int)) (rmM 2 42) (Pre G M [.ref (G.1 + 0), .int x1, .int x2]) (PoI G q) 0 0 (gA G) := by
  refine r_met (own := RX10) rfl (by decide) (Nat.le_of_ble_eq_true rfl) ?_
  intro p e s m below meth c ls C hr hlk hS hl
  have hl : lv_has ls 3 [(0, .ref (G.1 + 0)), (1, .int x1), (2, .int x2)] := hl
  obtain ⟨hx, hb, -⟩ := id C
  unfold NW_letters at h
  refine lv_iload_n hx hb dX10_letters_0 rfl (lv_at hl 1 rfl) ?_
  obtain ⟨⟨r_1, M_2⟩, hq_3, h⟩ := ob h
  try dsimp only at h
  refine r_thenI hS (r_runS C hS hl.1 cs_X10_100 (c_X10_isTongue l G F x1 M  _ hq_3) ⟨by decide, by decide⟩ rfl rfl (Nat.le_of_ble_eq_true rfl) ⟨Nat.zero_le _, Nat.zero_le _⟩ dX10_letters_1) (fun H locs hS => ?_)
  refine lv_if_eq (tgt := 14) hx hb dX10_letters_4 (by decide) (fun c_4 => ?_) (fun c_4 => ?_)
  · replace h := ifp c_4 h
    refine lv_sipush (v := (-1001)) hx hb dX10_letters_14 (by decide) ?_
    exact r_iret C hS hr hlk h dX10_letters_17
  · replace h := ifn c_4 h
    refine lv_iload_n hx hb dX10_letters_7 rfl (lv_at hl 2 rfl) ?_
    obtain ⟨⟨r_5, M_6⟩, hq_7, h⟩ := ob h
    try dsimp only at h
    refine r_thenI hS (r_runS C hS hl.1 cs_X10_139 (c_X10_isNumber l G F x2 M_2  _ hq_7) ⟨by decide, by decide⟩ rfl rfl (Nat.le_of_ble_eq_true rfl) ⟨Nat.zero_le _, Nat.zero_le _⟩ dX10_letters_8) (fun H locs hS => ?_)
    refine lv_if_ne (tgt := 18) hx hb dX10_letters_11 (by decide) (fun c_8 => ?_) (fun c_8 => ?_)
    · replace h := ifn c_8 h
      refine lv_aload_n hx hb dX10_letters_18 rfl (lv_at hl 0 rfl) ?_
      refine r_gR C hS fl_X10_34 rfl rfl rfl dX10_letters_19 ?_
      refine lv_iload_n hx hb dX10_letters_22 rfl (lv_at hl 1 rfl) ?_
      obtain ⟨b_9, h⟩ := ift h
      refine r_aald C hS rfl rfl b_9 (zR_13 b_9) dX10_letters_23 ?_
      refine lv_iload_n hx hb dX10_letters_24 rfl (lv_at hl 2 rfl) ?_
      obtain ⟨⟨r_10, M_11⟩, hq_12, h⟩ := ob h
      try dsimp only at h
      refine r_thenI hS (r_runV C hS hl.1 cv_X10_146 (zK_13 b_9) (c_X9_lettersOf l G F (tgA x1) x2 M_6 (zK_13 b_9) _ hq_12) ⟨by decide, by decide⟩ rfl rfl (Nat.le_of_ble_eq_true rfl) ⟨Nat.zero_le _, Nat.zero_le _⟩ dX10_letters_25) (fun H locs hS => ?_)
      exact r_iret C hS hr hlk h dX10_letters_28
    · replace h := ifp c_8 h
      refine lv_sipush (v := (-1001)) hx hb dX10_letters_14 (by decide) ?_
      exact r_iret C hS hr hlk h dX10_letters_17
set_option maxHeartbeats 4000000 in
set_option maxRecDepth 100000 in
theorem c_X10_by (l : Launch) (G : Gl) (F : Nat) (x1 : Int32) (x2 : Int32) (M : zM)  (q : Int32 × zM) (h : NW_by F x1 x2 M = some q) : Met l yX10_by (wsM yX10_by cX10_by 3 (some .int)) (rmM 2 42) (Pre G M [.ref (G.1 + 0), .int x1, .int x2]) (PoI G q) 0 0 (gA G) := by
  refine r_met (own := RX10) rfl (by decide) (Nat.le_of_ble_eq_true rfl) ?_
  intro p e s m below meth c ls C hr hlk hS hl
  have hl : lv_has ls 3 [(0, .ref (G.1 + 0)), (1, .int x1), (2, .int x2)] := hl
  obtain ⟨hx, hb, -⟩ := id C
  unfold NW_by at h
  refine lv_iload_n hx hb dX10_by_0 rfl (lv_at hl 1 rfl) ?_
  obtain ⟨⟨r_1, M_2⟩, hq_3, h⟩ := ob h
  try dsimp only at h
  refine r_thenI hS (r_runS C hS hl.1 cs_X10_100 (c_X10_isTongue l G F x1 M  _ hq_3) ⟨by decide, by decide⟩ rfl rfl (Nat.le_of_ble_eq_true rfl) ⟨Nat.zero_le _, Nat.zero_le _⟩ dX10_by_1) (fun H locs hS => ?_)
  refine lv_if_eq (tgt := 14) hx hb dX10_by_4 (by decide) (fun c_4 => ?_) (fun c_4 => ?_)
  · replace h := ifp c_4 h
    refine lv_sipush (v := (-1001)) hx hb dX10_by_14 (by decide) ?_
    exact r_iret C hS hr hlk h dX10_by_17
  · replace h := ifn c_4 h
    refine lv_iload_n hx hb dX10_by_7 rfl (lv_at hl 2 rfl) ?_
    obtain ⟨⟨r_5, M_6⟩, hq_7, h⟩ := ob h
    try dsimp only at h
    refine r_thenI hS (r_runS C hS hl.1 cs_X10_139 (c_X10_isNumber l G F x2 M_2  _ hq_7) ⟨by decide, by decide⟩ rfl rfl (Nat.le_of_ble_eq_true rfl) ⟨Nat.zero_le _, Nat.zero_le _⟩ dX10_by_8) (fun H locs hS => ?_)
    refine lv_if_ne (tgt := 18) hx hb dX10_by_11 (by decide) (fun c_8 => ?_) (fun c_8 => ?_)
    · replace h := ifn c_8 h
      refine lv_aload_n hx hb dX10_by_18 rfl (lv_at hl 0 rfl) ?_
      refine r_gR C hS fl_X10_34 rfl rfl rfl dX10_by_19 ?_
      refine lv_iload_n hx hb dX10_by_22 rfl (lv_at hl 1 rfl) ?_
      obtain ⟨b_9, h⟩ := ift h
      refine r_aald C hS rfl rfl b_9 (zR_13 b_9) dX10_by_23 ?_
      refine lv_iload_n hx hb dX10_by_24 rfl (lv_at hl 2 rfl) ?_
      obtain ⟨⟨r_10, M_11⟩, hq_12, h⟩ := ob h
      try dsimp only at h
      refine r_thenI hS (r_runV C hS hl.1 cv_X10_150 (zK_13 b_9) (c_X9_clauseOf l G F (tgA x1) x2 M_6 (zK_13 b_9) _ hq_12) ⟨by decide, by decide⟩ rfl rfl (Nat.le_of_ble_eq_true rfl) ⟨Nat.zero_le _, Nat.zero_le _⟩ dX10_by_25) (fun H locs hS => ?_)
      exact r_iret C hS hr hlk h dX10_by_28
    · replace h := ifp c_8 h
      refine lv_sipush (v := (-1001)) hx hb dX10_by_14 (by decide) ?_
      exact r_iret C hS hr hlk h dX10_by_17
set_option maxHeartbeats 4000000 in
set_option maxRecDepth 100000 in
theorem c_X10_deep (l : Launch) (G : Gl) (F : Nat) (x1 : Int32) (x2 : Int32) (M : zM)  (q : Int32 × zM) (h : NW_deep F x1 x2 M = some q) : Met l yX10_deep (wsM yX10_deep cX10_deep 3 (some .int)) (rmM 2 42) (Pre G M [.ref (G.1 + 0), .int x1, .int x2]) (PoI G q) 0 0 (gA G) := by
  refine r_met (own := RX10) rfl (by decide) (Nat.le_of_ble_eq_true rfl) ?_
  intro p e s m below meth c ls C hr hlk hS hl
  have hl : lv_has ls 3 [(0, .ref (G.1 + 0)), (1, .int x1), (2, .int x2)] := hl
  obtain ⟨hx, hb, -⟩ := id C
  unfold NW_deep at h
  refine lv_iload_n hx hb dX10_deep_0 rfl (lv_at hl 1 rfl) ?_
  obtain ⟨⟨r_1, M_2⟩, hq_3, h⟩ := ob h
  try dsimp only at h
  refine r_thenI hS (r_runS C hS hl.1 cs_X10_100 (c_X10_isTongue l G F x1 M  _ hq_3) ⟨by decide, by decide⟩ rfl rfl (Nat.le_of_ble_eq_true rfl) ⟨Nat.zero_le _, Nat.zero_le _⟩ dX10_deep_1) (fun H locs hS => ?_)
  refine lv_if_eq (tgt := 14) hx hb dX10_deep_4 (by decide) (fun c_4 => ?_) (fun c_4 => ?_)
  · replace h := ifp c_4 h
    refine lv_sipush (v := (-1001)) hx hb dX10_deep_14 (by decide) ?_
    exact r_iret C hS hr hlk h dX10_deep_17
  · replace h := ifn c_4 h
    refine lv_iload_n hx hb dX10_deep_7 rfl (lv_at hl 2 rfl) ?_
    obtain ⟨⟨r_5, M_6⟩, hq_7, h⟩ := ob h
    try dsimp only at h
    refine r_thenI hS (r_runS C hS hl.1 cs_X10_139 (c_X10_isNumber l G F x2 M_2  _ hq_7) ⟨by decide, by decide⟩ rfl rfl (Nat.le_of_ble_eq_true rfl) ⟨Nat.zero_le _, Nat.zero_le _⟩ dX10_deep_8) (fun H locs hS => ?_)
    refine lv_if_ne (tgt := 18) hx hb dX10_deep_11 (by decide) (fun c_8 => ?_) (fun c_8 => ?_)
    · replace h := ifn c_8 h
      refine lv_aload_n hx hb dX10_deep_18 rfl (lv_at hl 0 rfl) ?_
      refine r_gR C hS fl_X10_34 rfl rfl rfl dX10_deep_19 ?_
      refine lv_iload_n hx hb dX10_deep_22 rfl (lv_at hl 1 rfl) ?_
      obtain ⟨b_9, h⟩ := ift h
      refine r_aald C hS rfl rfl b_9 (zR_13 b_9) dX10_deep_23 ?_
      refine lv_iload_n hx hb dX10_deep_24 rfl (lv_at hl 2 rfl) ?_
      obtain ⟨⟨r_10, M_11⟩, hq_12, h⟩ := ob h
      try dsimp only at h
      refine r_thenI hS (r_runV C hS hl.1 cv_X10_153 (zK_13 b_9) (c_X9_depthOf l G F (tgA x1) x2 M_6 (zK_13 b_9) _ hq_12) ⟨by decide, by decide⟩ rfl rfl (Nat.le_of_ble_eq_true rfl) ⟨Nat.zero_le _, Nat.zero_le _⟩ dX10_deep_25) (fun H locs hS => ?_)
      exact r_iret C hS hr hlk h dX10_deep_28
    · replace h := ifp c_8 h
      refine lv_sipush (v := (-1001)) hx hb dX10_deep_14 (by decide) ?_
      exact r_iret C hS hr hlk h dX10_deep_17
set_option maxHeartbeats 4000000 in
set_option maxRecDepth 100000 in
theorem c_X10_isLetter (l : Launch) (G : Gl) (F : Nat) (x0 : Int32) (M : zM)  (q : Int32 × zM) (h : NW_isLetter F x0 M = some q) : Met l yX10_isLetter (wsM yX10_isLetter cX10_isLetter 1 (some .boolean)) (rmM 0 0) (Pre G M [.int x0]) (PoI G q) 0 0 (gA G) := by
  refine r_met (own := RX10) rfl (by decide) (Nat.le_of_ble_eq_true rfl) ?_
  intro p e s m below meth c ls C hr hlk hS hl
  have hl : lv_has ls 1 [(0, .int x0)] := hl
  obtain ⟨hx, hb, -⟩ := id C
  unfold NW_isLetter at h
  refine lv_iload_n hx hb dX10_isLetter_0 rfl (lv_at hl 0 rfl) ?_
  refine lv_if_lt (tgt := 14) hx hb dX10_isLetter_1 (by decide) (fun c_1 => ?_) (fun c_1 => ?_)
  · replace h := ifp c_1 h
    refine lv_iconst (v := 0) hx hb dX10_isLetter_14 (by decide) ?_
    exact r_zret C hS hr hlk h dX10_isLetter_15
  · replace h := ifn c_1 h
    refine lv_iload_n hx hb dX10_isLetter_4 rfl (lv_at hl 0 rfl) ?_
    refine lv_bipush (v := 26) hx hb dX10_isLetter_5 (by decide) ?_
    refine lv_icmp_ge (tgt := 14) hx hb dX10_isLetter_7 (by decide) (fun c_2 => ?_) (fun c_2 => ?_)
    · replace h := ifp c_2 h
      refine lv_iconst (v := 0) hx hb dX10_isLetter_14 (by decide) ?_
      exact r_zret C hS hr hlk h dX10_isLetter_15
    · replace h := ifn c_2 h
      refine lv_iconst (v := 1) hx hb dX10_isLetter_10 (by decide) ?_
      refine lv_goto (tgt := 15) hx hb dX10_isLetter_11 (by decide) ?_
      exact r_zret C hS hr hlk h dX10_isLetter_15
def E_NW_uses_49 (G : Gl) (p : Program) (l : Launch) (e : Env) (s : State) (m : MethodId) (args : Array Value) (below : List Frame) (meth : Method) (c : Code) (Q : State → Prop) (x1 : Int32) (x2 : Int32) (x4 : Int32) : Nat → (Int32 × Int32 × zM) → Prop := fun k (x5, x6, M) => match k with
  | 0 => ∀ (H : Heap) (locs : List Loc) (ls : Array Slot), St G M s H locs → lv_has ls 7 [(0, .ref (G.1 + 0)), (1, .int x1), (2, .int x2), (4, .int x4), (5, .int x5), (6, .int x6)] → W p l e (rmM 3 73) s m args below meth c H locs 0 0 Q (F0 m 49 ls [])
  | 1 => ∀ (H : Heap) (locs : List Loc) (ls : Array Slot), St G M s H locs → lv_has ls 7 [(5, .int x5)] → W p l e (rmM 3 73) s m args below meth c H locs 0 0 Q (F0 m 82 ls [])
  | _ => True
set_option maxHeartbeats 4000000 in
set_option maxRecDepth 100000 in
theorem w_NW_uses_B49 {G : Gl} {p : Program} {l : Launch} {e : Env} {s : State} {m : MethodId} {args : Array Value} {below : List Frame} {meth : Method} {c : Code} {Q : State → Prop} (C : Cx G cX10_uses 7 RX10 p s m args c) (x1 : Int32) (x2 : Int32) (x4 : Int32) (F : Nat) : ∀ (σ : (Int32 × Int32 × zM)) (q : Nat × (Int32 × Int32 × zM)), NW_uses_B49 F x1 x2 x4 σ = some q → (E_NW_uses_49 G p l e s m args below meth c Q x1 x2 x4) q.1 q.2 → (E_NW_uses_49 G p l e s m args below meth c Q x1 x2 x4) 0 σ := by
  intro (x5, x6, M) q h hE H locs ls hS hl
  obtain ⟨hx, hb, -⟩ := id C
  unfold NW_uses_B49 at h
  try dsimp only at h
  refine lv_iload hx hb dX10_uses_49 (lv_at hl 5 rfl) ?_
  refine lv_iload hx hb dX10_uses_51 (lv_at hl 3 rfl) ?_
  refine lv_icmp_gt (tgt := 82) hx hb dX10_uses_53 (by decide) (fun c_18 => ?_) (fun c_18 => ?_)
  · replace h := ifp c_18 h
    obtain rfl := Option.some.inj h
    exact hE _ _ _ hS (lv_sub hl [4] rfl)
  · replace h := ifn c_18 h
    refine lv_iload hx hb dX10_uses_56 (lv_at hl 4 rfl) ?_
    refine lv_aload_n hx hb dX10_uses_58 rfl (lv_at hl 0 rfl) ?_
    refine r_gR C hS fl_X10_34 rfl rfl rfl dX10_uses_59 ?_
    refine lv_iload_n hx hb dX10_uses_62 rfl (lv_at hl 1 rfl) ?_
    obtain ⟨b_19, h⟩ := ift h
    refine r_aald C hS rfl rfl b_19 (zR_13 b_19) dX10_uses_63 ?_
    refine lv_bipush (v := 97) hx hb dX10_uses_64 (by decide) ?_
    refine lv_iload_n hx hb dX10_uses_66 rfl (lv_at hl 2 rfl) ?_
    refine lv_iadd hx hb dX10_uses_67 ?_
    refine lv_iload hx hb dX10_uses_68 (lv_at hl 5 rfl) ?_
    obtain ⟨⟨r_20, M_21⟩, hq_22, h⟩ := ob h
    try dsimp only at h
    refine r_thenI hS (r_runV C hS hl.1 cv_X10_159 (zK_13 b_19) (c_X9_countOf l G F (tgA x1) (97 + x2) x6 M (zK_13 b_19) _ hq_22) ⟨by decide, by decide⟩ rfl rfl (Nat.le_of_ble_eq_true rfl) ⟨Nat.zero_le _, Nat.zero_le _⟩ dX10_uses_70) (fun H locs hS => ?_)
    refine lv_iadd hx hb dX10_uses_73 ?_
    obtain ⟨x5_23, e_24, h⟩ := olt h
    refine r_nI e_24 ?_
    refine lv_istore (lv' := [(5, .int x5_23), (0, .ref (G.1 + 0)), (1, .int x1), (2, .int x2), (4, .int x4), (6, .int x6)]) hx hb dX10_uses_74 hl (by decide) rfl (fun ls hl => ?_)
    obtain ⟨x6_25, e_26, h⟩ := olt h
    refine lv_iinc (v := x6_25) (lv' := [(6, .int x6_25), (5, .int x5_23), (0, .ref (G.1 + 0)), (1, .int x1), (2, .int x2), (4, .int x4)]) hx hb dX10_uses_76 hl (k := 5) rfl (by rw [e_26]; rfl) (by decide) rfl (fun ls hl => ?_)
    refine lv_goto (tgt := 49) hx hb dX10_uses_79 (by decide) ?_
    obtain rfl := Option.some.inj h
    exact hE _ _ _ hS (lv_sub hl [2, 3, 4, 5, 1, 0] rfl)
set_option maxHeartbeats 4000000 in
set_option maxRecDepth 100000 in
theorem c_X10_uses (l : Launch) (G : Gl) (F : Nat) (x1 : Int32) (x2 : Int32) (x3 : Int32) (x4 : Int32) (M : zM)  (q : Int32 × zM) (h : NW_uses F x1 x2 x3 x4 M = some q) : Met l yX10_uses (wsM yX10_uses cX10_uses 7 (some .int)) (rmM 3 73) (Pre G M [.ref (G.1 + 0), .int x1, .int x2, .int x3, .int x4]) (PoI G q) 0 0 (gA G) := by
  refine r_met (own := RX10) rfl (by decide) (Nat.le_of_ble_eq_true rfl) ?_
  intro p e s m below meth c ls C hr hlk hS hl
  have hl : lv_has ls 7 [(0, .ref (G.1 + 0)), (1, .int x1), (2, .int x2), (3, .int x3), (4, .int x4)] := hl
  obtain ⟨hx, hb, -⟩ := id C
  unfold NW_uses at h
  refine lv_iload_n hx hb dX10_uses_0 rfl (lv_at hl 1 rfl) ?_
  obtain ⟨⟨r_1, M_2⟩, hq_3, h⟩ := ob h
  try dsimp only at h
  refine r_thenI hS (r_runS C hS hl.1 cs_X10_100 (c_X10_isTongue l G F x1 M  _ hq_3) ⟨by decide, by decide⟩ rfl rfl (Nat.le_of_ble_eq_true rfl) ⟨Nat.zero_le _, Nat.zero_le _⟩ dX10_uses_1) (fun H locs hS => ?_)
  refine lv_if_eq (tgt := 22) hx hb dX10_uses_4 (by decide) (fun c_4 => ?_) (fun c_4 => ?_)
  · replace h := ifp c_4 h
    refine lv_sipush (v := (-1001)) hx hb dX10_uses_22 (by decide) ?_
    exact r_iret C hS hr hlk h dX10_uses_25
  · replace h := ifn c_4 h
    refine lv_iload_n hx hb dX10_uses_7 rfl (lv_at hl 3 rfl) ?_
    obtain ⟨⟨r_5, M_6⟩, hq_7, h⟩ := ob h
    try dsimp only at h
    refine r_thenI hS (r_runS C hS hl.1 cs_X10_139 (c_X10_isNumber l G F x3 M_2  _ hq_7) ⟨by decide, by decide⟩ rfl rfl (Nat.le_of_ble_eq_true rfl) ⟨Nat.zero_le _, Nat.zero_le _⟩ dX10_uses_8) (fun H locs hS => ?_)
    refine lv_if_eq (tgt := 22) hx hb dX10_uses_11 (by decide) (fun c_8 => ?_) (fun c_8 => ?_)
    · replace h := ifp c_8 h
      refine lv_sipush (v := (-1001)) hx hb dX10_uses_22 (by decide) ?_
      exact r_iret C hS hr hlk h dX10_uses_25
    · replace h := ifn c_8 h
      refine lv_iload hx hb dX10_uses_14 (lv_at hl 4 rfl) ?_
      obtain ⟨⟨r_9, M_10⟩, hq_11, h⟩ := ob h
      try dsimp only at h
      refine r_thenI hS (r_runS C hS hl.1 cs_X10_139 (c_X10_isNumber l G F x4 M_6  _ hq_11) ⟨by decide, by decide⟩ rfl rfl (Nat.le_of_ble_eq_true rfl) ⟨Nat.zero_le _, Nat.zero_le _⟩ dX10_uses_16) (fun H locs hS => ?_)
      refine lv_if_ne (tgt := 26) hx hb dX10_uses_19 (by decide) (fun c_12 => ?_) (fun c_12 => ?_)
      · replace h := ifn c_12 h
        refine lv_iload_n hx hb dX10_uses_26 rfl (lv_at hl 2 rfl) ?_
        obtain ⟨⟨r_13, M_14⟩, hq_15, h⟩ := ob h
        try dsimp only at h
        refine r_thenI hS (r_runS C hS hl.1 cs_X10_156 (c_X10_isLetter l G F x2 M_10  _ hq_15) ⟨by decide, by decide⟩ rfl rfl (Nat.le_of_ble_eq_true rfl) ⟨Nat.zero_le _, Nat.zero_le _⟩ dX10_uses_27) (fun H locs hS => ?_)
        refine lv_if_eq (tgt := 39) hx hb dX10_uses_30 (by decide) (fun c_16 => ?_) (fun c_16 => ?_)
        · replace h := ifp c_16 h
          refine lv_sipush (v := (-1002)) hx hb dX10_uses_39 (by decide) ?_
          exact r_iret C hS hr hlk h dX10_uses_42
        · replace h := ifn c_16 h
          refine lv_iload hx hb dX10_uses_33 (lv_at hl 4 rfl) ?_
          refine lv_iload_n hx hb dX10_uses_35 rfl (lv_at hl 3 rfl) ?_
          refine lv_icmp_ge (tgt := 43) hx hb dX10_uses_36 (by decide) (fun c_17 => ?_) (fun c_17 => ?_)
          · replace h := ifp c_17 h
            refine lv_iconst (v := 0) hx hb dX10_uses_43 (by decide) ?_
            refine lv_istore (lv' := [(5, .int 0), (0, .ref (G.1 + 0)), (1, .int x1), (2, .int x2), (3, .int x3), (4, .int x4)]) hx hb dX10_uses_44 hl (by decide) rfl (fun ls hl => ?_)
            refine lv_iload_n hx hb dX10_uses_46 rfl (lv_at hl 4 rfl) ?_
            refine lv_istore (lv' := [(6, .int x3), (5, .int 0), (0, .ref (G.1 + 0)), (1, .int x1), (2, .int x2), (3, .int x3), (4, .int x4)]) hx hb dX10_uses_47 hl (by decide) rfl (fun ls hl => ?_)
            obtain ⟨⟨k_30, x5_27, x6_28, M_29⟩, hq_31, h⟩ := ob h
            try dsimp only at h
            refine loopW (E := (E_NW_uses_49 G p l e s m _ below meth c _ x1 x2 x4)) (w_NW_uses_B49 C x1 x2 x4 F) F _ _ hq_31 ?_ _ _ _ hS (lv_sub hl [2, 3, 4, 6, 1, 0] rfl)
            by_cases ek_32 : k_30 = 1
            · replace h := ifp ek_32 h
              subst ek_32
              intro H locs ls hS hl
              refine lv_iload hx hb dX10_uses_82 (lv_at hl 0 rfl) ?_
              exact r_iret C hS hr hlk h dX10_uses_84
            · replace h := ifn ek_32 h
              cases h
          · replace h := ifn c_17 h
            refine lv_sipush (v := (-1002)) hx hb dX10_uses_39 (by decide) ?_
            exact r_iret C hS hr hlk h dX10_uses_42
      · replace h := ifp c_12 h
        refine lv_sipush (v := (-1001)) hx hb dX10_uses_22 (by decide) ?_
        exact r_iret C hS hr hlk h dX10_uses_25
def E_NW_first_24 (G : Gl) (p : Program) (l : Launch) (e : Env) (s : State) (m : MethodId) (args : Array Value) (below : List Frame) (meth : Method) (c : Code) (Q : State → Prop) (x1 : Int32) (x2 : Int32) : Nat → (Int32 × zM) → Prop := fun k (x3, M) => match k with
  | 0 => ∀ (H : Heap) (locs : List Loc) (ls : Array Slot), St G M s H locs → lv_has ls 4 [(0, .ref (G.1 + 0)), (1, .int x1), (2, .int x2), (3, .int x3)] → W p l e (rmM 3 73) s m args below meth c H locs 0 0 Q (F0 m 24 ls [])
  | 1 => ∀ (H : Heap) (locs : List Loc) (ls : Array Slot), St G M s H locs → lv_has ls 4 [(3, .int x3)] → W p l e (rmM 3 73) s m args below meth c H locs 0 0 Q (F0 m 48 ls [])
  | 2 => ∀ (H : Heap) (locs : List Loc) (ls : Array Slot), St G M s H locs → lv_has ls 4 [] → W p l e (rmM 3 73) s m args below meth c H locs 0 0 Q (F0 m 56 ls [])
  | _ => True
set_option maxHeartbeats 4000000 in
set_option maxRecDepth 100000 in
theorem w_NW_first_B24 {G : Gl} {p : Program} {l : Launch} {e : Env} {s : State} {m : MethodId} {args : Array Value} {below : List Frame} {meth : Method} {c : Code} {Q : State → Prop} (C : Cx G cX10_first 4 RX10 p s m args c) (x1 : Int32) (x2 : Int32) (F : Nat) : ∀ (σ : (Int32 × zM)) (q : Nat × (Int32 × zM)), NW_first_B24 F x1 x2 σ = some q → (E_NW_first_24 G p l e s m args below meth c Q x1 x2) q.1 q.2 → (E_NW_first_24 G p l e s m args below meth c Q x1 x2) 0 σ := by
  intro (x3, M) q h hE H locs ls hS hl
  obtain ⟨hx, hb, -⟩ := id C
  unfold NW_first_B24 at h
  try dsimp only at h
  refine lv_iload_n hx hb dX10_first_24 rfl (lv_at hl 3 rfl) ?_
  refine lv_sipush (v := 1000) hx hb dX10_first_25 (by decide) ?_
  refine lv_icmp_ge (tgt := 56) hx hb dX10_first_28 (by decide) (fun c_9 => ?_) (fun c_9 => ?_)
  · replace h := ifp c_9 h
    obtain rfl := Option.some.inj h
    exact hE _ _ _ hS (lv_sub hl [] rfl)
  · replace h := ifn c_9 h
    refine lv_aload_n hx hb dX10_first_31 rfl (lv_at hl 0 rfl) ?_
    refine r_gR C hS fl_X10_34 rfl rfl rfl dX10_first_32 ?_
    refine lv_iload_n hx hb dX10_first_35 rfl (lv_at hl 1 rfl) ?_
    obtain ⟨b_10, h⟩ := ift h
    refine r_aald C hS rfl rfl b_10 (zR_13 b_10) dX10_first_36 ?_
    refine lv_bipush (v := 97) hx hb dX10_first_37 (by decide) ?_
    refine lv_iload_n hx hb dX10_first_39 rfl (lv_at hl 2 rfl) ?_
    refine lv_iadd hx hb dX10_first_40 ?_
    refine lv_iload_n hx hb dX10_first_41 rfl (lv_at hl 3 rfl) ?_
    obtain ⟨⟨r_11, M_12⟩, hq_13, h⟩ := ob h
    try dsimp only at h
    refine r_thenI hS (r_runV C hS hl.1 cv_X10_159 (zK_13 b_10) (c_X9_countOf l G F (tgA x1) (97 + x2) x3 M (zK_13 b_10) _ hq_13) ⟨by decide, by decide⟩ rfl rfl (Nat.le_of_ble_eq_true rfl) ⟨Nat.zero_le _, Nat.zero_le _⟩ dX10_first_42) (fun H locs hS => ?_)
    refine lv_if_le (tgt := 50) hx hb dX10_first_45 (by decide) (fun c_14 => ?_) (fun c_14 => ?_)
    · replace h := ifp c_14 h
      obtain ⟨x3_15, e_16, h⟩ := olt h
      refine lv_iinc (v := x3_15) (lv' := [(3, .int x3_15), (0, .ref (G.1 + 0)), (1, .int x1), (2, .int x2)]) hx hb dX10_first_50 hl (k := 3) rfl (by rw [e_16]; rfl) (by decide) rfl (fun ls hl => ?_)
      refine lv_goto (tgt := 24) hx hb dX10_first_53 (by decide) ?_
      obtain rfl := Option.some.inj h
      exact hE _ _ _ hS (lv_sub hl [1, 2, 3, 0] rfl)
    · replace h := ifn c_14 h
      obtain rfl := Option.some.inj h
      exact hE _ _ _ hS (lv_sub hl [3] rfl)
set_option maxHeartbeats 4000000 in
set_option maxRecDepth 100000 in
theorem c_X10_first (l : Launch) (G : Gl) (F : Nat) (x1 : Int32) (x2 : Int32) (M : zM)  (q : Int32 × zM) (h : NW_first F x1 x2 M = some q) : Met l yX10_first (wsM yX10_first cX10_first 4 (some .int)) (rmM 3 73) (Pre G M [.ref (G.1 + 0), .int x1, .int x2]) (PoI G q) 0 0 (gA G) := by
  refine r_met (own := RX10) rfl (by decide) (Nat.le_of_ble_eq_true rfl) ?_
  intro p e s m below meth c ls C hr hlk hS hl
  have hl : lv_has ls 4 [(0, .ref (G.1 + 0)), (1, .int x1), (2, .int x2)] := hl
  obtain ⟨hx, hb, -⟩ := id C
  unfold NW_first at h
  refine lv_iload_n hx hb dX10_first_0 rfl (lv_at hl 1 rfl) ?_
  obtain ⟨⟨r_1, M_2⟩, hq_3, h⟩ := ob h
  try dsimp only at h
  refine r_thenI hS (r_runS C hS hl.1 cs_X10_100 (c_X10_isTongue l G F x1 M  _ hq_3) ⟨by decide, by decide⟩ rfl rfl (Nat.le_of_ble_eq_true rfl) ⟨Nat.zero_le _, Nat.zero_le _⟩ dX10_first_1) (fun H locs hS => ?_)
  refine lv_if_ne (tgt := 11) hx hb dX10_first_4 (by decide) (fun c_4 => ?_) (fun c_4 => ?_)
  · replace h := ifn c_4 h
    refine lv_iload_n hx hb dX10_first_11 rfl (lv_at hl 2 rfl) ?_
    obtain ⟨⟨r_5, M_6⟩, hq_7, h⟩ := ob h
    try dsimp only at h
    refine r_thenI hS (r_runS C hS hl.1 cs_X10_156 (c_X10_isLetter l G F x2 M_2  _ hq_7) ⟨by decide, by decide⟩ rfl rfl (Nat.le_of_ble_eq_true rfl) ⟨Nat.zero_le _, Nat.zero_le _⟩ dX10_first_12) (fun H locs hS => ?_)
    refine lv_if_ne (tgt := 22) hx hb dX10_first_15 (by decide) (fun c_8 => ?_) (fun c_8 => ?_)
    · replace h := ifn c_8 h
      refine lv_iconst (v := 0) hx hb dX10_first_22 (by decide) ?_
      refine lv_istore_n (lv' := [(3, .int 0), (0, .ref (G.1 + 0)), (1, .int x1), (2, .int x2)]) hx hb dX10_first_23 rfl hl (by decide) rfl (fun ls hl => ?_)
      obtain ⟨⟨k_19, x3_17, M_18⟩, hq_20, h⟩ := ob h
      try dsimp only at h
      refine loopW (E := (E_NW_first_24 G p l e s m _ below meth c _ x1 x2)) (w_NW_first_B24 C x1 x2 F) F _ _ hq_20 ?_ _ _ _ hS (lv_sub hl [1, 2, 3, 0] rfl)
      by_cases ek_22 : k_19 = 1
      · replace h := ifp ek_22 h
        subst ek_22
        intro H locs ls hS hl
        refine lv_iload_n hx hb dX10_first_48 rfl (lv_at hl 0 rfl) ?_
        exact r_iret C hS hr hlk h dX10_first_49
      · replace h := ifn ek_22 h
        by_cases ek_21 : k_19 = 2
        · replace h := ifp ek_21 h
          subst ek_21
          intro H locs ls hS hl
          refine lv_iconst (v := (-1)) hx hb dX10_first_56 (by decide) ?_
          exact r_iret C hS hr hlk h dX10_first_57
        · replace h := ifn ek_21 h
          cases h
    · replace h := ifp c_8 h
      refine lv_sipush (v := (-1002)) hx hb dX10_first_18 (by decide) ?_
      exact r_iret C hS hr hlk h dX10_first_21
  · replace h := ifp c_4 h
    refine lv_sipush (v := (-1001)) hx hb dX10_first_7 (by decide) ?_
    exact r_iret C hS hr hlk h dX10_first_10
def E_NW_song_40 (G : Gl) (p : Program) (l : Launch) (e : Env) (s : State) (m : MethodId) (args : Array Value) (below : List Frame) (meth : Method) (c : Code) (Q : State → Prop) (x1 : Int32) (x3 : Int32) : Nat → (Int32 × Int32 × zM) → Prop := fun k (x4, x5, M) => match k with
  | 0 => ∀ (H : Heap) (locs : List Loc) (ls : Array Slot), St G M s H locs → lv_has ls 6 [(0, .ref (G.1 + 0)), (1, .int x1), (3, .int x3), (4, .int x4), (5, .int x5)] → W p l e (rmM 2 42) s m args below meth c H locs 0 0 Q (F0 m 40 ls [])
  | 1 => ∀ (H : Heap) (locs : List Loc) (ls : Array Slot), St G M s H locs → lv_has ls 6 [(4, .int x4)] → W p l e (rmM 2 42) s m args below meth c H locs 0 0 Q (F0 m 72 ls [])
  | _ => True
set_option maxHeartbeats 4000000 in
set_option maxRecDepth 100000 in
theorem w_NW_song_B40 {G : Gl} {p : Program} {l : Launch} {e : Env} {s : State} {m : MethodId} {args : Array Value} {below : List Frame} {meth : Method} {c : Code} {Q : State → Prop} (C : Cx G cX10_song 6 RX10 p s m args c) (x1 : Int32) (x3 : Int32) (F : Nat) : ∀ (σ : (Int32 × Int32 × zM)) (q : Nat × (Int32 × Int32 × zM)), NW_song_B40 F x1 x3 σ = some q → (E_NW_song_40 G p l e s m args below meth c Q x1 x3) q.1 q.2 → (E_NW_song_40 G p l e s m args below meth c Q x1 x3) 0 σ := by
  intro (x4, x5, M) q h hE H locs ls hS hl
  obtain ⟨hx, hb, -⟩ := id C
  unfold NW_song_B40 at h
  try dsimp only at h
  refine lv_iload hx hb dX10_song_40 (lv_at hl 4 rfl) ?_
  refine lv_iload_n hx hb dX10_song_42 rfl (lv_at hl 2 rfl) ?_
  refine lv_icmp_gt (tgt := 72) hx hb dX10_song_43 (by decide) (fun c_14 => ?_) (fun c_14 => ?_)
  · replace h := ifp c_14 h
    obtain rfl := Option.some.inj h
    exact hE _ _ _ hS (lv_sub hl [3] rfl)
  · replace h := ifn c_14 h
    refine lv_iload hx hb dX10_song_46 (lv_at hl 3 rfl) ?_
    refine lv_iconst (v := 0) hx hb dX10_song_48 (by decide) ?_
    refine lv_aload_n hx hb dX10_song_49 rfl (lv_at hl 0 rfl) ?_
    refine r_gR C hS fl_X10_34 rfl rfl rfl dX10_song_50 ?_
    refine lv_iload_n hx hb dX10_song_53 rfl (lv_at hl 1 rfl) ?_
    obtain ⟨b_15, h⟩ := ift h
    refine r_aald C hS rfl rfl b_15 (zR_13 b_15) dX10_song_54 ?_
    refine lv_iload hx hb dX10_song_55 (lv_at hl 4 rfl) ?_
    obtain ⟨⟨r_16, M_17⟩, hq_18, h⟩ := ob h
    try dsimp only at h
    refine r_thenI hS (r_runV C hS hl.1 cv_X10_146 (zK_13 b_15) (c_X9_lettersOf l G F (tgA x1) x5 M (zK_13 b_15) _ hq_18) ⟨by decide, by decide⟩ rfl rfl (Nat.le_of_ble_eq_true rfl) ⟨Nat.zero_le _, Nat.zero_le _⟩ dX10_song_57) (fun H locs hS => ?_)
    refine r_jmx C hl.1 tw_691 (by decide) (Nat.le_of_ble_eq_true rfl) ⟨Nat.zero_le _, Nat.zero_le _⟩ dX10_song_60 ?_
    refine lv_iadd hx hb dX10_song_63 ?_
    obtain ⟨x4_19, e_20, h⟩ := olt h
    refine r_nI e_20 ?_
    refine lv_istore (lv' := [(4, .int x4_19), (0, .ref (G.1 + 0)), (1, .int x1), (3, .int x3), (5, .int x5)]) hx hb dX10_song_64 hl (by decide) rfl (fun ls hl => ?_)
    obtain ⟨x5_21, e_22, h⟩ := olt h
    refine lv_iinc (v := x5_21) (lv' := [(5, .int x5_21), (4, .int x4_19), (0, .ref (G.1 + 0)), (1, .int x1), (3, .int x3)]) hx hb dX10_song_66 hl (k := 4) rfl (by rw [e_22]; rfl) (by decide) rfl (fun ls hl => ?_)
    refine lv_goto (tgt := 40) hx hb dX10_song_69 (by decide) ?_
    obtain rfl := Option.some.inj h
    exact hE _ _ _ hS (lv_sub hl [2, 3, 4, 1, 0] rfl)
set_option maxHeartbeats 4000000 in
set_option maxRecDepth 100000 in
theorem c_X10_song (l : Launch) (G : Gl) (F : Nat) (x1 : Int32) (x2 : Int32) (x3 : Int32) (M : zM)  (q : Int32 × zM) (h : NW_song F x1 x2 x3 M = some q) : Met l yX10_song (wsM yX10_song cX10_song 6 (some .int)) (rmM 2 42) (Pre G M [.ref (G.1 + 0), .int x1, .int x2, .int x3]) (PoI G q) 0 0 (gA G) := by
  refine r_met (own := RX10) rfl (by decide) (Nat.le_of_ble_eq_true rfl) ?_
  intro p e s m below meth c ls C hr hlk hS hl
  have hl : lv_has ls 6 [(0, .ref (G.1 + 0)), (1, .int x1), (2, .int x2), (3, .int x3)] := hl
  obtain ⟨hx, hb, -⟩ := id C
  unfold NW_song at h
  refine lv_iload_n hx hb dX10_song_0 rfl (lv_at hl 1 rfl) ?_
  obtain ⟨⟨r_1, M_2⟩, hq_3, h⟩ := ob h
  try dsimp only at h
  refine r_thenI hS (r_runS C hS hl.1 cs_X10_100 (c_X10_isTongue l G F x1 M  _ hq_3) ⟨by decide, by decide⟩ rfl rfl (Nat.le_of_ble_eq_true rfl) ⟨Nat.zero_le _, Nat.zero_le _⟩ dX10_song_1) (fun H locs hS => ?_)
  refine lv_if_eq (tgt := 21) hx hb dX10_song_4 (by decide) (fun c_4 => ?_) (fun c_4 => ?_)
  · replace h := ifp c_4 h
    refine lv_sipush (v := (-1001)) hx hb dX10_song_21 (by decide) ?_
    exact r_iret C hS hr hlk h dX10_song_24
  · replace h := ifn c_4 h
    refine lv_iload_n hx hb dX10_song_7 rfl (lv_at hl 2 rfl) ?_
    obtain ⟨⟨r_5, M_6⟩, hq_7, h⟩ := ob h
    try dsimp only at h
    refine r_thenI hS (r_runS C hS hl.1 cs_X10_139 (c_X10_isNumber l G F x2 M_2  _ hq_7) ⟨by decide, by decide⟩ rfl rfl (Nat.le_of_ble_eq_true rfl) ⟨Nat.zero_le _, Nat.zero_le _⟩ dX10_song_8) (fun H locs hS => ?_)
    refine lv_if_eq (tgt := 21) hx hb dX10_song_11 (by decide) (fun c_8 => ?_) (fun c_8 => ?_)
    · replace h := ifp c_8 h
      refine lv_sipush (v := (-1001)) hx hb dX10_song_21 (by decide) ?_
      exact r_iret C hS hr hlk h dX10_song_24
    · replace h := ifn c_8 h
      refine lv_iload_n hx hb dX10_song_14 rfl (lv_at hl 3 rfl) ?_
      obtain ⟨⟨r_9, M_10⟩, hq_11, h⟩ := ob h
      try dsimp only at h
      refine r_thenI hS (r_runS C hS hl.1 cs_X10_139 (c_X10_isNumber l G F x3 M_6  _ hq_11) ⟨by decide, by decide⟩ rfl rfl (Nat.le_of_ble_eq_true rfl) ⟨Nat.zero_le _, Nat.zero_le _⟩ dX10_song_15) (fun H locs hS => ?_)
      refine lv_if_ne (tgt := 25) hx hb dX10_song_18 (by decide) (fun c_12 => ?_) (fun c_12 => ?_)
      · replace h := ifn c_12 h
        refine lv_iload_n hx hb dX10_song_25 rfl (lv_at hl 3 rfl) ?_
        refine lv_iload_n hx hb dX10_song_26 rfl (lv_at hl 2 rfl) ?_
        refine lv_icmp_ge (tgt := 34) hx hb dX10_song_27 (by decide) (fun c_13 => ?_) (fun c_13 => ?_)
        · replace h := ifp c_13 h
          refine lv_iconst (v := 0) hx hb dX10_song_34 (by decide) ?_
          refine lv_istore (lv' := [(4, .int 0), (0, .ref (G.1 + 0)), (1, .int x1), (2, .int x2), (3, .int x3)]) hx hb dX10_song_35 hl (by decide) rfl (fun ls hl => ?_)
          refine lv_iload_n hx hb dX10_song_37 rfl (lv_at hl 3 rfl) ?_
          refine lv_istore (lv' := [(5, .int x2), (4, .int 0), (0, .ref (G.1 + 0)), (1, .int x1), (2, .int x2), (3, .int x3)]) hx hb dX10_song_38 hl (by decide) rfl (fun ls hl => ?_)
          obtain ⟨⟨k_26, x4_23, x5_24, M_25⟩, hq_27, h⟩ := ob h
          try dsimp only at h
          refine loopW (E := (E_NW_song_40 G p l e s m _ below meth c _ x1 x3)) (w_NW_song_B40 C x1 x3 F) F _ _ hq_27 ?_ _ _ _ hS (lv_sub hl [2, 3, 5, 1, 0] rfl)
          by_cases ek_28 : k_26 = 1
          · replace h := ifp ek_28 h
            subst ek_28
            intro H locs ls hS hl
            refine lv_iload hx hb dX10_song_72 (lv_at hl 0 rfl) ?_
            exact r_iret C hS hr hlk h dX10_song_74
          · replace h := ifn ek_28 h
            cases h
        · replace h := ifn c_13 h
          refine lv_sipush (v := (-1002)) hx hb dX10_song_30 (by decide) ?_
          exact r_iret C hS hr hlk h dX10_song_33
      · replace h := ifp c_12 h
        refine lv_sipush (v := (-1001)) hx hb dX10_song_21 (by decide) ?_
        exact r_iret C hS hr hlk h dX10_song_24
set_option maxHeartbeats 4000000 in
set_option maxRecDepth 100000 in
theorem c_X10_order (l : Launch) (G : Gl) (F : Nat) (x1 : Int32) (x2 : Int32) (M : zM)  (q : Int32 × zM) (h : NW_order F x1 x2 M = some q) : Met l yX10_order (wsM yX10_order cX10_order 3 (some .int)) (rmM 6 156) (Pre G M [.ref (G.1 + 0), .int x1, .int x2]) (PoI G q) 0 0 (gA G) := by
  refine r_met (own := RX10) rfl (by decide) (Nat.le_of_ble_eq_true rfl) ?_
  intro p e s m below meth c ls C hr hlk hS hl
  have hl : lv_has ls 3 [(0, .ref (G.1 + 0)), (1, .int x1), (2, .int x2)] := hl
  obtain ⟨hx, hb, -⟩ := id C
  unfold NW_order at h
  refine lv_iload_n hx hb dX10_order_0 rfl (lv_at hl 1 rfl) ?_
  obtain ⟨⟨r_1, M_2⟩, hq_3, h⟩ := ob h
  try dsimp only at h
  refine r_thenI hS (r_runS C hS hl.1 cs_X10_100 (c_X10_isTongue l G F x1 M  _ hq_3) ⟨by decide, by decide⟩ rfl rfl (Nat.le_of_ble_eq_true rfl) ⟨Nat.zero_le _, Nat.zero_le _⟩ dX10_order_1) (fun H locs hS => ?_)
  refine lv_if_ne (tgt := 11) hx hb dX10_order_4 (by decide) (fun c_4 => ?_) (fun c_4 => ?_)
  · replace h := ifn c_4 h
    refine lv_aload_n hx hb dX10_order_11 rfl (lv_at hl 0 rfl) ?_
    refine r_gR C hS fl_X10_34 rfl rfl rfl dX10_order_12 ?_
    refine lv_iload_n hx hb dX10_order_15 rfl (lv_at hl 1 rfl) ?_
    obtain ⟨b_5, h⟩ := ift h
    refine r_aald C hS rfl rfl b_5 (zR_13 b_5) dX10_order_16 ?_
    refine lv_iload_n hx hb dX10_order_17 rfl (lv_at hl 2 rfl) ?_
    refine lv_aload_n hx hb dX10_order_18 rfl (lv_at hl 0 rfl) ?_
    refine r_gR C hS fl_X10_51 rfl rfl rfl dX10_order_19 ?_
    obtain ⟨⟨r_6, M_7⟩, hq_8, h⟩ := ob h
    try dsimp only at h
    refine r_thenI hS (r_runV C hS hl.1 cv_X10_167 (zK_13 b_5) (c_X9_numberAt l G F (tgA x1) x2 M_2 (zK_13 b_5) _ hq_8) ⟨by decide, by decide⟩ rfl rfl (Nat.le_of_ble_eq_true rfl) ⟨Nat.zero_le _, Nat.zero_le _⟩ dX10_order_22) (fun H locs hS => ?_)
    exact r_iret C hS hr hlk h dX10_order_25
  · replace h := ifp c_4 h
    refine lv_sipush (v := (-1001)) hx hb dX10_order_7 (by decide) ?_
    exact r_iret C hS hr hlk h dX10_order_10
set_option maxHeartbeats 4000000 in
set_option maxRecDepth 100000 in
theorem c_X10_place (l : Launch) (G : Gl) (F : Nat) (x1 : Int32) (x2 : Int32) (M : zM)  (q : Int32 × zM) (h : NW_place F x1 x2 M = some q) : Met l yX10_place (wsM yX10_place cX10_place 3 (some .int)) (rmM 6 157) (Pre G M [.ref (G.1 + 0), .int x1, .int x2]) (PoI G q) 0 0 (gA G) := by
  refine r_met (own := RX10) rfl (by decide) (Nat.le_of_ble_eq_true rfl) ?_
  intro p e s m below meth c ls C hr hlk hS hl
  have hl : lv_has ls 3 [(0, .ref (G.1 + 0)), (1, .int x1), (2, .int x2)] := hl
  obtain ⟨hx, hb, -⟩ := id C
  unfold NW_place at h
  refine lv_iload_n hx hb dX10_place_0 rfl (lv_at hl 1 rfl) ?_
  obtain ⟨⟨r_1, M_2⟩, hq_3, h⟩ := ob h
  try dsimp only at h
  refine r_thenI hS (r_runS C hS hl.1 cs_X10_100 (c_X10_isTongue l G F x1 M  _ hq_3) ⟨by decide, by decide⟩ rfl rfl (Nat.le_of_ble_eq_true rfl) ⟨Nat.zero_le _, Nat.zero_le _⟩ dX10_place_1) (fun H locs hS => ?_)
  refine lv_if_eq (tgt := 14) hx hb dX10_place_4 (by decide) (fun c_4 => ?_) (fun c_4 => ?_)
  · replace h := ifp c_4 h
    refine lv_sipush (v := (-1001)) hx hb dX10_place_14 (by decide) ?_
    exact r_iret C hS hr hlk h dX10_place_17
  · replace h := ifn c_4 h
    refine lv_iload_n hx hb dX10_place_7 rfl (lv_at hl 2 rfl) ?_
    obtain ⟨⟨r_5, M_6⟩, hq_7, h⟩ := ob h
    try dsimp only at h
    refine r_thenI hS (r_runS C hS hl.1 cs_X10_139 (c_X10_isNumber l G F x2 M_2  _ hq_7) ⟨by decide, by decide⟩ rfl rfl (Nat.le_of_ble_eq_true rfl) ⟨Nat.zero_le _, Nat.zero_le _⟩ dX10_place_8) (fun H locs hS => ?_)
    refine lv_if_ne (tgt := 18) hx hb dX10_place_11 (by decide) (fun c_8 => ?_) (fun c_8 => ?_)
    · replace h := ifn c_8 h
      refine lv_aload_n hx hb dX10_place_18 rfl (lv_at hl 0 rfl) ?_
      refine r_gR C hS fl_X10_34 rfl rfl rfl dX10_place_19 ?_
      refine lv_iload_n hx hb dX10_place_22 rfl (lv_at hl 1 rfl) ?_
      obtain ⟨b_9, h⟩ := ift h
      refine r_aald C hS rfl rfl b_9 (zR_13 b_9) dX10_place_23 ?_
      refine lv_iload_n hx hb dX10_place_24 rfl (lv_at hl 2 rfl) ?_
      refine lv_aload_n hx hb dX10_place_25 rfl (lv_at hl 0 rfl) ?_
      refine r_gR C hS fl_X10_51 rfl rfl rfl dX10_place_26 ?_
      obtain ⟨⟨r_10, M_11⟩, hq_12, h⟩ := ob h
      try dsimp only at h
      refine r_thenI hS (r_runV C hS hl.1 cv_X10_171 (zK_13 b_9) (c_X9_placeOf l G F (tgA x1) x2 M_6 (zK_13 b_9) _ hq_12) ⟨by decide, by decide⟩ rfl rfl (Nat.le_of_ble_eq_true rfl) ⟨Nat.zero_le _, Nat.zero_le _⟩ dX10_place_29) (fun H locs hS => ?_)
      exact r_iret C hS hr hlk h dX10_place_32
    · replace h := ifp c_8 h
      refine lv_sipush (v := (-1001)) hx hb dX10_place_14 (by decide) ?_
      exact r_iret C hS hr hlk h dX10_place_17
set_option maxHeartbeats 4000000 in
set_option maxRecDepth 100000 in
theorem c_X10_twins (l : Launch) (G : Gl) (F : Nat) (x1 : Int32) (x2 : Int32) (M : zM)  (q : Int32 × zM) (h : NW_twins F x1 x2 M = some q) : Met l yX10_twins (wsM yX10_twins cX10_twins 4 (some .int)) (rmM 6 158) (Pre G M [.ref (G.1 + 0), .int x1, .int x2]) (PoI G q) 0 0 (gA G) := by
  refine r_met (own := RX10) rfl (by decide) (Nat.le_of_ble_eq_true rfl) ?_
  intro p e s m below meth c ls C hr hlk hS hl
  have hl : lv_has ls 4 [(0, .ref (G.1 + 0)), (1, .int x1), (2, .int x2)] := hl
  obtain ⟨hx, hb, -⟩ := id C
  unfold NW_twins at h
  refine lv_iload_n hx hb dX10_twins_0 rfl (lv_at hl 1 rfl) ?_
  obtain ⟨⟨r_1, M_2⟩, hq_3, h⟩ := ob h
  try dsimp only at h
  refine r_thenI hS (r_runS C hS hl.1 cs_X10_100 (c_X10_isTongue l G F x1 M  _ hq_3) ⟨by decide, by decide⟩ rfl rfl (Nat.le_of_ble_eq_true rfl) ⟨Nat.zero_le _, Nat.zero_le _⟩ dX10_twins_1) (fun H locs hS => ?_)
  refine lv_if_ne (tgt := 11) hx hb dX10_twins_4 (by decide) (fun c_4 => ?_) (fun c_4 => ?_)
  · replace h := ifn c_4 h
    refine lv_aload_n hx hb dX10_twins_11 rfl (lv_at hl 0 rfl) ?_
    refine r_gR C hS fl_X10_34 rfl rfl rfl dX10_twins_12 ?_
    refine lv_iload_n hx hb dX10_twins_15 rfl (lv_at hl 1 rfl) ?_
    obtain ⟨b_5, h⟩ := ift h
    refine r_aald C hS rfl rfl b_5 (zR_13 b_5) dX10_twins_16 ?_
    refine lv_astore_n (lv' := [(3, .ref (G.1 + tgA x1)), (0, .ref (G.1 + 0)), (1, .int x1), (2, .int x2)]) hx hb dX10_twins_17 rfl hl (by decide) rfl (fun ls hl => ?_)
    refine lv_iload_n hx hb dX10_twins_18 rfl (lv_at hl 3 rfl) ?_
    by_cases c_6 : x2 = 0
    · replace h := ifp c_6 h
      refine r_nI c_6.symm ?_
      refine lv_tableIn (tgt := 44) (off := 25) hx hb dX10_twins_19 (by decide) (by decide) (by decide) (by decide) ?_
      refine lv_aload_n hx hb dX10_twins_44 rfl (lv_at hl 0 rfl) ?_
      refine lv_aload_n hx hb dX10_twins_45 rfl (lv_at hl 1 rfl) ?_
      refine r_gR C hS fl_X10_51 rfl rfl rfl dX10_twins_46 ?_
      obtain ⟨⟨r_15, M_16⟩, hq_17, h⟩ := ob h
      try dsimp only at h
      refine r_thenI hS (r_runV C hS hl.1 cv_X10_174 (zK_13 b_5) (c_X9_lesserTwin l G F (tgA x1) M_2 (zK_13 b_5) _ hq_17) ⟨by decide, by decide⟩ rfl rfl (Nat.le_of_ble_eq_true rfl) ⟨Nat.zero_le _, Nat.zero_le _⟩ dX10_twins_49) (fun H locs hS => ?_)
      exact r_iret C hS hr hlk h dX10_twins_52
    · replace h := ifn c_6 h
      by_cases c_7 : x2 = 1
      · replace h := ifp c_7 h
        refine r_nI c_7.symm ?_
        refine lv_tableIn (tgt := 53) (off := 34) hx hb dX10_twins_19 (by decide) (by decide) (by decide) (by decide) ?_
        refine lv_aload_n hx hb dX10_twins_53 rfl (lv_at hl 0 rfl) ?_
        refine lv_aload_n hx hb dX10_twins_54 rfl (lv_at hl 1 rfl) ?_
        refine r_gR C hS fl_X10_51 rfl rfl rfl dX10_twins_55 ?_
        obtain ⟨⟨r_12, M_13⟩, hq_14, h⟩ := ob h
        try dsimp only at h
        refine r_thenI hS (r_runV C hS hl.1 cv_X10_178 (zK_13 b_5) (c_X9_greaterTwin l G F (tgA x1) M_2 (zK_13 b_5) _ hq_14) ⟨by decide, by decide⟩ rfl rfl (Nat.le_of_ble_eq_true rfl) ⟨Nat.zero_le _, Nat.zero_le _⟩ dX10_twins_58) (fun H locs hS => ?_)
        exact r_iret C hS hr hlk h dX10_twins_61
      · replace h := ifn c_7 h
        by_cases c_8 : x2 = 2
        · replace h := ifp c_8 h
          refine r_nI c_8.symm ?_
          refine lv_tableIn (tgt := 62) (off := 43) hx hb dX10_twins_19 (by decide) (by decide) (by decide) (by decide) ?_
          refine lv_aload_n hx hb dX10_twins_62 rfl (lv_at hl 0 rfl) ?_
          refine lv_aload_n hx hb dX10_twins_63 rfl (lv_at hl 1 rfl) ?_
          refine r_gR C hS fl_X10_51 rfl rfl rfl dX10_twins_64 ?_
          obtain ⟨⟨r_9, M_10⟩, hq_11, h⟩ := ob h
          try dsimp only at h
          refine r_thenI hS (r_runV C hS hl.1 cv_X10_181 (zK_13 b_5) (c_X9_twinCount l G F (tgA x1) M_2 (zK_13 b_5) _ hq_11) ⟨by decide, by decide⟩ rfl rfl (Nat.le_of_ble_eq_true rfl) ⟨Nat.zero_le _, Nat.zero_le _⟩ dX10_twins_67) (fun H locs hS => ?_)
          exact r_iret C hS hr hlk h dX10_twins_70
        · replace h := ifn c_8 h
          refine lv_tableOut (tgt := 71) hx hb dX10_twins_19 (by have := ne_toInt c_6 (n := 0) (by decide); have := ne_toInt c_7 (n := 1) (by decide); have := ne_toInt c_8 (n := 2) (by decide); omega) (by decide) ?_
          refine lv_sipush (v := (-1002)) hx hb dX10_twins_71 (by decide) ?_
          exact r_iret C hS hr hlk h dX10_twins_74
  · replace h := ifp c_4 h
    refine lv_sipush (v := (-1001)) hx hb dX10_twins_7 (by decide) ?_
    exact r_iret C hS hr hlk h dX10_twins_10
set_option maxHeartbeats 4000000 in
set_option maxRecDepth 100000 in
theorem w_NW_write_J60 {G : Gl} {p : Program} {l : Launch} {e : Env} {s : State} {m : MethodId} {args : Array Value} {below : List Frame} {meth : Method} {c : Code} (C : Cx G cX10_write 2 RX10 p s m args c) (hr : meth.sig.returnType = (some .int)) (hlk : meth.locks = false) (F : Nat)  (M : zM)  (q : Int32 × zM) (h : NW_write_J60 F  M = some q) (H : Heap) (locs : List Loc) (ls : Array Slot) (hS : St G M s H locs) (hl : lv_has ls 2 [(0, .ref (G.1 + 0))]) : W p l e (rmM 1 25) s m args below meth c H locs 0 0 (MQ below (PoI G q) args s 0 0 (gA G)) (F0 m 60 ls []) := by
  obtain ⟨hx, hb, -⟩ := id C
  unfold NW_write_J60 at h
  refine lv_aload_n hx hb dX10_write_60 rfl (lv_at hl 0 rfl) ?_
  refine r_gR C hS fl_X10_58 rfl rfl rfl dX10_write_61 ?_
  obtain ⟨⟨r_10, M_11⟩, hq_12, h⟩ := ob h
  try dsimp only at h
  refine r_thenI hS (r_runV C hS hl.1 cv_X10_138 rfl (c_X3_size l G F 53 M rfl _ hq_12) ⟨by decide, by decide⟩ rfl rfl (Nat.le_of_ble_eq_true rfl) ⟨Nat.zero_le _, Nat.zero_le _⟩ dX10_write_64) (fun H locs hS => ?_)
  exact r_iret C hS hr hlk h dX10_write_67
set_option maxHeartbeats 4000000 in
set_option maxRecDepth 100000 in
theorem w_NW_write_J22 {G : Gl} {p : Program} {l : Launch} {e : Env} {s : State} {m : MethodId} {args : Array Value} {below : List Frame} {meth : Method} {c : Code} (C : Cx G cX10_write 2 RX10 p s m args c) (hr : meth.sig.returnType = (some .int)) (hlk : meth.locks = false) (F : Nat) (x1 : Int32) (M : zM)  (q : Int32 × zM) (h : NW_write_J22 F x1 M = some q) (H : Heap) (locs : List Loc) (ls : Array Slot) (hS : St G M s H locs) (hl : lv_has ls 2 [(0, .ref (G.1 + 0)), (1, .int x1)]) : W p l e (rmM 1 25) s m args below meth c H locs 0 0 (MQ below (PoI G q) args s 0 0 (gA G)) (F0 m 22 ls []) := by
  obtain ⟨hx, hb, -⟩ := id C
  unfold NW_write_J22 at h
  refine lv_aload_n hx hb dX10_write_22 rfl (lv_at hl 0 rfl) ?_
  refine r_gR C hS fl_X10_58 rfl rfl rfl dX10_write_23 ?_
  refine lv_iload_n hx hb dX10_write_26 rfl (lv_at hl 1 rfl) ?_
  obtain ⟨⟨r_2, M_3⟩, hq_4, h⟩ := ob h
  try dsimp only at h
  refine r_thenL hS (r_runS C hS hl.1 cs_X10_184 (c_X3_signOf l G F x1 M  _ hq_4) ⟨by decide, by decide⟩ rfl rfl (Nat.le_of_ble_eq_true rfl) ⟨Nat.zero_le _, Nat.zero_le _⟩ dX10_write_27) (fun H locs hS => ?_)
  refine lv_iconst (v := 1) hx hb dX10_write_30 (by decide) ?_
  obtain ⟨⟨r_5, M_6⟩, hq_7, h⟩ := ob h
  try dsimp only at h
  refine r_thenI hS (r_runV C hS hl.1 cv_X10_188 rfl (c_X3_append l G F 53 r_2 1 M_3 rfl _ hq_7) ⟨by decide, by decide⟩ rfl rfl (Nat.le_of_ble_eq_true rfl) ⟨Nat.zero_le _, Nat.zero_le _⟩ dX10_write_31) (fun H locs hS => ?_)
  refine lv_if_ne (tgt := 41) hx hb dX10_write_34 (by decide) (fun c_8 => ?_) (fun c_8 => ?_)
  · replace h := ifn c_8 h
    refine lv_iload_n hx hb dX10_write_41 rfl (lv_at hl 1 rfl) ?_
    refine lv_bipush (v := 32) hx hb dX10_write_42 (by decide) ?_
    refine lv_icmp_eq (tgt := 60) hx hb dX10_write_44 (by decide) (fun c_9 => ?_) (fun c_9 => ?_)
    · replace h := ifp c_9 h
      exact w_NW_write_J60 C hr hlk F  M_6  q h _ _ _ hS (lv_sub hl [0] rfl)
    · replace h := ifn c_9 h
      refine lv_aload_n hx hb dX10_write_47 rfl (lv_at hl 0 rfl) ?_
      refine r_gR C hS fl_X10_62 rfl rfl rfl dX10_write_48 ?_
      refine lv_iload_n hx hb dX10_write_51 rfl (lv_at hl 1 rfl) ?_
      obtain ⟨⟨r_13, M_14⟩, hq_15, h⟩ := ob h
      try dsimp only at h
      refine r_thenL hS (r_runS C hS hl.1 cs_X10_184 (c_X3_signOf l G F x1 M_6  _ hq_15) ⟨by decide, by decide⟩ rfl rfl (Nat.le_of_ble_eq_true rfl) ⟨Nat.zero_le _, Nat.zero_le _⟩ dX10_write_52) (fun H locs hS => ?_)
      refine lv_iconst (v := 1) hx hb dX10_write_55 (by decide) ?_
      obtain ⟨⟨r_16, M_17⟩, hq_18, h⟩ := ob h
      try dsimp only at h
      refine r_thenI hS (r_runV C hS hl.1 cv_X10_188 rfl (c_X3_append l G F 55 r_13 1 M_14 rfl _ hq_18) ⟨by decide, by decide⟩ rfl rfl (Nat.le_of_ble_eq_true rfl) ⟨Nat.zero_le _, Nat.zero_le _⟩ dX10_write_56) (fun H locs hS => ?_)
      refine lv_pop hx hb dX10_write_59 rfl ?_
      exact w_NW_write_J60 C hr hlk F  M_17  q h _ _ _ hS (lv_sub hl [0] rfl)
  · replace h := ifp c_8 h
    refine lv_sipush (v := (-1004)) hx hb dX10_write_37 (by decide) ?_
    exact r_iret C hS hr hlk h dX10_write_40
set_option maxHeartbeats 4000000 in
set_option maxRecDepth 100000 in
theorem c_X10_write (l : Launch) (G : Gl) (F : Nat) (x1 : Int32) (M : zM)  (q : Int32 × zM) (h : NW_write F x1 M = some q) : Met l yX10_write (wsM yX10_write cX10_write 2 (some .int)) (rmM 1 25) (Pre G M [.ref (G.1 + 0), .int x1]) (PoI G q) 0 0 (gA G) := by
  refine r_met (own := RX10) rfl (by decide) (Nat.le_of_ble_eq_true rfl) ?_
  intro p e s m below meth c ls C hr hlk hS hl
  have hl : lv_has ls 2 [(0, .ref (G.1 + 0)), (1, .int x1)] := hl
  obtain ⟨hx, hb, -⟩ := id C
  unfold NW_write at h
  refine lv_iload_n hx hb dX10_write_0 rfl (lv_at hl 1 rfl) ?_
  refine lv_bipush (v := 32) hx hb dX10_write_1 (by decide) ?_
  refine lv_icmp_eq (tgt := 22) hx hb dX10_write_3 (by decide) (fun c_1 => ?_) (fun c_1 => ?_)
  · replace h := ifp c_1 h
    exact w_NW_write_J22 C hr hlk F x1 M  q h _ _ _ hS (lv_sub hl [0, 1] rfl)
  · replace h := ifn c_1 h
    refine lv_iload_n hx hb dX10_write_6 rfl (lv_at hl 1 rfl) ?_
    refine lv_bipush (v := 97) hx hb dX10_write_7 (by decide) ?_
    refine lv_icmp_lt (tgt := 18) hx hb dX10_write_9 (by decide) (fun c_19 => ?_) (fun c_19 => ?_)
    · replace h := ifp c_19 h
      refine lv_sipush (v := (-1002)) hx hb dX10_write_18 (by decide) ?_
      exact r_iret C hS hr hlk h dX10_write_21
    · replace h := ifn c_19 h
      refine lv_iload_n hx hb dX10_write_12 rfl (lv_at hl 1 rfl) ?_
      refine lv_bipush (v := 122) hx hb dX10_write_13 (by decide) ?_
      refine lv_icmp_le (tgt := 22) hx hb dX10_write_15 (by decide) (fun c_20 => ?_) (fun c_20 => ?_)
      · replace h := ifp c_20 h
        exact w_NW_write_J22 C hr hlk F x1 M  q h _ _ _ hS (lv_sub hl [0, 1] rfl)
      · replace h := ifn c_20 h
        refine lv_sipush (v := (-1002)) hx hb dX10_write_18 (by decide) ?_
        exact r_iret C hS hr hlk h dX10_write_21
set_option maxHeartbeats 4000000 in
set_option maxRecDepth 100000 in
theorem c_X10_clear (l : Launch) (G : Gl) (F : Nat)  (M : zM)  (q : Int32 × zM) (h : NW_clear F  M = some q) : Met l yX10_clear (wsM yX10_clear cX10_clear 2 (some .int)) (rmM 2 44) (Pre G M [.ref (G.1 + 0)]) (PoI G q) 0 0 (gA G) := by
  refine r_met (own := RX10) rfl (by decide) (Nat.le_of_ble_eq_true rfl) ?_
  intro p e s m below meth c ls C hr hlk hS hl
  have hl : lv_has ls 2 [(0, .ref (G.1 + 0))] := hl
  obtain ⟨hx, hb, -⟩ := id C
  unfold NW_clear at h
  refine lv_aload_n hx hb dX10_clear_0 rfl (lv_at hl 0 rfl) ?_
  refine r_gR C hS fl_X10_58 rfl rfl rfl dX10_clear_1 ?_
  obtain ⟨⟨r_1, M_2⟩, hq_3, h⟩ := ob h
  try dsimp only at h
  refine r_thenI hS (r_runV C hS hl.1 cv_X10_138 rfl (c_X3_size l G F 53 M rfl _ hq_3) ⟨by decide, by decide⟩ rfl rfl (Nat.le_of_ble_eq_true rfl) ⟨Nat.zero_le _, Nat.zero_le _⟩ dX10_clear_4) (fun H locs hS => ?_)
  refine lv_istore_n (lv' := [(1, .int r_1), (0, .ref (G.1 + 0))]) hx hb dX10_clear_7 rfl hl (by decide) rfl (fun ls hl => ?_)
  refine lv_aload_n hx hb dX10_clear_8 rfl (lv_at hl 1 rfl) ?_
  refine r_gR C hS fl_X10_58 rfl rfl rfl dX10_clear_9 ?_
  obtain ⟨⟨_r_4, M_5⟩, hq_6, h⟩ := ob h
  try dsimp only at h
  refine r_thenV hS (r_runV C hS hl.1 cv_X10_191 rfl (c_X3_empty l G F 53 M_2 rfl _ hq_6) ⟨by decide, by decide⟩ rfl rfl (Nat.le_of_ble_eq_true rfl) ⟨Nat.zero_le _, Nat.zero_le _⟩ dX10_clear_12) (fun H locs hS => ?_)
  refine lv_aload_n hx hb dX10_clear_15 rfl (lv_at hl 1 rfl) ?_
  refine r_gR C hS fl_X10_62 rfl rfl rfl dX10_clear_16 ?_
  obtain ⟨⟨_r_7, M_8⟩, hq_9, h⟩ := ob h
  try dsimp only at h
  refine r_thenV hS (r_runV C hS hl.1 cv_X10_191 rfl (c_X3_empty l G F 55 M_5 rfl _ hq_9) ⟨by decide, by decide⟩ rfl rfl (Nat.le_of_ble_eq_true rfl) ⟨Nat.zero_le _, Nat.zero_le _⟩ dX10_clear_19) (fun H locs hS => ?_)
  refine lv_iload_n hx hb dX10_clear_22 rfl (lv_at hl 0 rfl) ?_
  exact r_iret C hS hr hlk h dX10_clear_23
set_option maxHeartbeats 4000000 in
set_option maxRecDepth 100000 in
theorem w_NW_find_J31 {G : Gl} {p : Program} {l : Launch} {e : Env} {s : State} {m : MethodId} {args : Array Value} {below : List Frame} {meth : Method} {c : Code} (C : Cx G cX10_find 4 RX10 p s m args c) (hr : meth.sig.returnType = (some .int)) (hlk : meth.locks = false) (F : Nat) (x1 : Int32) (x2 : Int32) (x3 : Int32) (b0 : Nat) (y1 : Int32) (b2 : Nat) (M : zM) (j0 : zK b0 = 6) (j2 : zK b2 = 3) (q : Int32 × zM) (h : NW_find_J31 F x1 x2 x3 b0 y1 b2 M = some q) (H : Heap) (locs : List Loc) (ls : Array Slot) (hS : St G M s H locs) (hl : lv_has ls 4 [(0, .ref (G.1 + 0)), (1, .int x1), (2, .int x2), (3, .int x3)]) : W p l e (rmM 4 96) s m args below meth c H locs 0 0 (MQ below (PoI G q) args s 0 0 (gA G)) (F0 m 31 ls [.ref (G.1 + b2), .int y1, .ref (G.1 + b0)]) := by
  obtain ⟨hx, hb, -⟩ := id C
  unfold NW_find_J31 at h
  obtain ⟨⟨_r_6, M_7⟩, hq_8, h⟩ := ob h
  try dsimp only at h
  refine r_thenV hS (r_runV C hS hl.1 cv_X10_192 j0 (c_X6_put l G F b0 y1 b2 M j0 j2 _ hq_8) ⟨by decide, by decide⟩ rfl rfl (Nat.le_of_ble_eq_true rfl) ⟨Nat.zero_le _, Nat.zero_le _⟩ dX10_find_31) (fun H locs hS => ?_)
  refine lv_iload_n hx hb dX10_find_34 rfl (lv_at hl 3 rfl) ?_
  refine lv_iconst (v := (-1)) hx hb dX10_find_35 (by decide) ?_
  refine lv_icmp_eq (tgt := 55) hx hb dX10_find_36 (by decide) (fun c_9 => ?_) (fun c_9 => ?_)
  · replace h := ifp c_9 h
    refine lv_aload_n hx hb dX10_find_55 rfl (lv_at hl 0 rfl) ?_
    refine r_gR C hS fl_X10_34 rfl rfl rfl dX10_find_56 ?_
    refine lv_iload_n hx hb dX10_find_59 rfl (lv_at hl 1 rfl) ?_
    obtain ⟨b_10, h⟩ := ift h
    refine r_aald C hS rfl rfl b_10 (zR_13 b_10) dX10_find_60 ?_
    refine lv_aload_n hx hb dX10_find_61 rfl (lv_at hl 0 rfl) ?_
    refine r_gR C hS fl_X10_70 rfl rfl rfl dX10_find_62 ?_
    refine lv_iload_n hx hb dX10_find_65 rfl (lv_at hl 2 rfl) ?_
    obtain ⟨⟨r_11, M_12⟩, hq_13, h⟩ := ob h
    try dsimp only at h
    refine r_thenI hS (r_runV C hS hl.1 cv_X10_200 (zK_13 b_10) (c_X9_readings l G F (tgA x1) 57 x2 M_7 (zK_13 b_10) rfl _ hq_13) ⟨by decide, by decide⟩ rfl rfl (Nat.le_of_ble_eq_true rfl) ⟨Nat.zero_le _, Nat.zero_le _⟩ dX10_find_66) (fun H locs hS => ?_)
    exact r_iret C hS hr hlk h dX10_find_69
  · replace h := ifn c_9 h
    refine lv_aload_n hx hb dX10_find_39 rfl (lv_at hl 0 rfl) ?_
    refine r_gR C hS fl_X10_34 rfl rfl rfl dX10_find_40 ?_
    refine lv_iload_n hx hb dX10_find_43 rfl (lv_at hl 1 rfl) ?_
    obtain ⟨b_14, h⟩ := ift h
    refine r_aald C hS rfl rfl b_14 (zR_13 b_14) dX10_find_44 ?_
    refine lv_aload_n hx hb dX10_find_45 rfl (lv_at hl 0 rfl) ?_
    refine r_gR C hS fl_X10_70 rfl rfl rfl dX10_find_46 ?_
    refine lv_iload_n hx hb dX10_find_49 rfl (lv_at hl 2 rfl) ?_
    refine lv_iload_n hx hb dX10_find_50 rfl (lv_at hl 3 rfl) ?_
    obtain ⟨⟨r_15, M_16⟩, hq_17, h⟩ := ob h
    try dsimp only at h
    refine r_thenI hS (r_runV C hS hl.1 cv_X10_196 (zK_13 b_14) (c_X9_reading l G F (tgA x1) 57 x2 x3 M_7 (zK_13 b_14) rfl _ hq_17) ⟨by decide, by decide⟩ rfl rfl (Nat.le_of_ble_eq_true rfl) ⟨Nat.zero_le _, Nat.zero_le _⟩ dX10_find_51) (fun H locs hS => ?_)
    exact r_iret C hS hr hlk h dX10_find_54
set_option maxHeartbeats 4000000 in
set_option maxRecDepth 100000 in
theorem c_X10_find (l : Launch) (G : Gl) (F : Nat) (x1 : Int32) (x2 : Int32) (x3 : Int32) (M : zM)  (q : Int32 × zM) (h : NW_find F x1 x2 x3 M = some q) : Met l yX10_find (wsM yX10_find cX10_find 4 (some .int)) (rmM 4 96) (Pre G M [.ref (G.1 + 0), .int x1, .int x2, .int x3]) (PoI G q) 0 0 (gA G) := by
  refine r_met (own := RX10) rfl (by decide) (Nat.le_of_ble_eq_true rfl) ?_
  intro p e s m below meth c ls C hr hlk hS hl
  have hl : lv_has ls 4 [(0, .ref (G.1 + 0)), (1, .int x1), (2, .int x2), (3, .int x3)] := hl
  obtain ⟨hx, hb, -⟩ := id C
  unfold NW_find at h
  refine lv_iload_n hx hb dX10_find_0 rfl (lv_at hl 1 rfl) ?_
  obtain ⟨⟨r_1, M_2⟩, hq_3, h⟩ := ob h
  try dsimp only at h
  refine r_thenI hS (r_runS C hS hl.1 cs_X10_100 (c_X10_isTongue l G F x1 M  _ hq_3) ⟨by decide, by decide⟩ rfl rfl (Nat.le_of_ble_eq_true rfl) ⟨Nat.zero_le _, Nat.zero_le _⟩ dX10_find_1) (fun H locs hS => ?_)
  refine lv_if_ne (tgt := 11) hx hb dX10_find_4 (by decide) (fun c_4 => ?_) (fun c_4 => ?_)
  · replace h := ifn c_4 h
    refine lv_aload_n hx hb dX10_find_11 rfl (lv_at hl 0 rfl) ?_
    refine r_gR C hS fl_X10_70 rfl rfl rfl dX10_find_12 ?_
    refine lv_iconst (v := 0) hx hb dX10_find_15 (by decide) ?_
    refine lv_iload_n hx hb dX10_find_16 rfl (lv_at hl 2 rfl) ?_
    refine lv_if_eq (tgt := 27) hx hb dX10_find_17 (by decide) (fun c_5 => ?_) (fun c_5 => ?_)
    · replace h := ifp c_5 h
      refine lv_aload_n hx hb dX10_find_27 rfl (lv_at hl 0 rfl) ?_
      refine r_gR C hS fl_X10_58 rfl rfl rfl dX10_find_28 ?_
      exact w_NW_find_J31 C hr hlk F x1 x2 x3 57 0 53 M_2 rfl rfl q h _ _ _ hS (lv_sub hl [0, 1, 2, 3] rfl)
    · replace h := ifn c_5 h
      refine lv_aload_n hx hb dX10_find_20 rfl (lv_at hl 0 rfl) ?_
      refine r_gR C hS fl_X10_62 rfl rfl rfl dX10_find_21 ?_
      refine lv_goto (tgt := 31) hx hb dX10_find_24 (by decide) ?_
      exact w_NW_find_J31 C hr hlk F x1 x2 x3 57 0 55 M_2 rfl rfl q h _ _ _ hS (lv_sub hl [0, 1, 2, 3] rfl)
  · replace h := ifp c_4 h
    refine lv_sipush (v := (-1001)) hx hb dX10_find_7 (by decide) ?_
    exact r_iret C hS hr hlk h dX10_find_10
def E_NW_nearest_65 (G : Gl) (p : Program) (l : Launch) (e : Env) (s : State) (m : MethodId) (args : Array Value) (below : List Frame) (meth : Method) (c : Code) (Q : State → Prop) (x2 : Int32) (a3 : Nat) : Nat → (Int32 × Int32 × Int32 × zM) → Prop := fun k (x4, x5, x6, M) => match k with
  | 0 => ∀ (H : Heap) (locs : List Loc) (ls : Array Slot), St G M s H locs → lv_has ls 8 [(0, .ref (G.1 + 0)), (2, .int x2), (3, .ref (G.1 + a3)), (4, .int x4), (5, .int x5), (6, .int x6)] → W p l e (rmM 3 87) s m args below meth c H locs 0 0 Q (F0 m 65 ls [])
  | 1 => ∀ (H : Heap) (locs : List Loc) (ls : Array Slot), St G M s H locs → lv_has ls 8 [(2, .int x2), (4, .int x4), (5, .int x5)] → W p l e (rmM 3 87) s m args below meth c H locs 0 0 Q (F0 m 142 ls [])
  | _ => True
set_option maxHeartbeats 4000000 in
set_option maxRecDepth 100000 in
theorem w_NW_nearest_B65 {G : Gl} {p : Program} {l : Launch} {e : Env} {s : State} {m : MethodId} {args : Array Value} {below : List Frame} {meth : Method} {c : Code} {Q : State → Prop} (C : Cx G cX10_nearest 8 RX10 p s m args c) (x2 : Int32) (a3 : Nat) (k3 : zK a3 = 9) (F : Nat) : ∀ (σ : (Int32 × Int32 × Int32 × zM)) (q : Nat × (Int32 × Int32 × Int32 × zM)), NW_nearest_B65 F x2 a3 σ = some q → (E_NW_nearest_65 G p l e s m args below meth c Q x2 a3) q.1 q.2 → (E_NW_nearest_65 G p l e s m args below meth c Q x2 a3) 0 σ := by
  intro (x4, x5, x6, M) q h hE H locs ls hS hl
  obtain ⟨hx, hb, -⟩ := id C
  unfold NW_nearest_B65 at h
  try dsimp only at h
  refine lv_iload hx hb dX10_nearest_65 (lv_at hl 5 rfl) ?_
  refine lv_sipush (v := 1000) hx hb dX10_nearest_67 (by decide) ?_
  refine lv_icmp_ge (tgt := 142) hx hb dX10_nearest_70 (by decide) (fun c_13 => ?_) (fun c_13 => ?_)
  · replace h := ifp c_13 h
    obtain rfl := Option.some.inj h
    exact hE _ _ _ hS (lv_sub hl [1, 3, 4] rfl)
  · replace h := ifn c_13 h
    refine lv_iload hx hb dX10_nearest_73 (lv_at hl 4 rfl) ?_
    refine lv_if_le (tgt := 142) hx hb dX10_nearest_75 (by decide) (fun c_14 => ?_) (fun c_14 => ?_)
    · replace h := ifp c_14 h
      obtain rfl := Option.some.inj h
      exact hE _ _ _ hS (lv_sub hl [1, 3, 4] rfl)
    · replace h := ifn c_14 h
      refine lv_aload_n hx hb dX10_nearest_78 rfl (lv_at hl 2 rfl) ?_
      refine lv_iload hx hb dX10_nearest_79 (lv_at hl 5 rfl) ?_
      obtain ⟨⟨r_15, M_16⟩, hq_17, h⟩ := ob h
      try dsimp only at h
      refine r_thenI hS (r_runV C hS hl.1 cv_X10_208 k3 (c_X9_has l G F a3 x6 M k3 _ hq_17) ⟨by decide, by decide⟩ rfl rfl (Nat.le_of_ble_eq_true rfl) ⟨Nat.zero_le _, Nat.zero_le _⟩ dX10_nearest_81) (fun H locs hS => ?_)
      refine lv_if_eq (tgt := 136) hx hb dX10_nearest_84 (by decide) (fun c_18 => ?_) (fun c_18 => ?_)
      · replace h := ifp c_18 h
        obtain ⟨x6_19, e_20, h⟩ := olt h
        refine lv_iinc (v := x6_19) (lv' := [(6, .int x6_19), (0, .ref (G.1 + 0)), (2, .int x2), (3, .ref (G.1 + a3)), (4, .int x4), (5, .int x5)]) hx hb dX10_nearest_136 hl (k := 5) rfl (by rw [e_20]; rfl) (by decide) rfl (fun ls hl => ?_)
        refine lv_goto (tgt := 65) hx hb dX10_nearest_139 (by decide) ?_
        obtain rfl := Option.some.inj h
        exact hE _ _ _ hS (lv_sub hl [1, 2, 3, 4, 5, 0] rfl)
      · replace h := ifn c_18 h
        refine lv_aload_n hx hb dX10_nearest_87 rfl (lv_at hl 2 rfl) ?_
        refine lv_iload hx hb dX10_nearest_88 (lv_at hl 5 rfl) ?_
        obtain ⟨⟨r_21, M_22⟩, hq_23, h⟩ := ob h
        try dsimp only at h
        refine r_thenI hS (r_runV C hS hl.1 cv_X10_146 k3 (c_X9_lettersOf l G F a3 x6 M_16 k3 _ hq_23) ⟨by decide, by decide⟩ rfl rfl (Nat.le_of_ble_eq_true rfl) ⟨Nat.zero_le _, Nat.zero_le _⟩ dX10_nearest_90) (fun H locs hS => ?_)
        refine lv_aload_n hx hb dX10_nearest_93 rfl (lv_at hl 0 rfl) ?_
        refine r_gR C hS fl_X10_77 rfl rfl rfl dX10_nearest_94 ?_
        obtain ⟨⟨r_24, M_25⟩, hq_26, h⟩ := ob h
        try dsimp only at h
        refine r_thenI hS (r_runV C hS hl.1 cv_X10_211 rfl (c_X1_size l G F  M_22  _ hq_26) ⟨by decide, by decide⟩ rfl rfl (Nat.le_of_ble_eq_true rfl) ⟨Nat.zero_le _, Nat.zero_le _⟩ dX10_nearest_97) (fun H locs hS => ?_)
        refine lv_isub hx hb dX10_nearest_100 ?_
        refine r_jab C hl.1 tw_808 (by decide) (Nat.le_of_ble_eq_true rfl) ⟨Nat.zero_le _, Nat.zero_le _⟩ dX10_nearest_101 ?_
        refine lv_iload hx hb dX10_nearest_104 (lv_at hl 4 rfl) ?_
        refine lv_icmp_ge (tgt := 136) hx hb dX10_nearest_106 (by decide) (fun c_27 => ?_) (fun c_27 => ?_)
        · replace h := ifp c_27 h
          obtain ⟨x6_28, e_29, h⟩ := olt h
          refine lv_iinc (v := x6_28) (lv' := [(6, .int x6_28), (0, .ref (G.1 + 0)), (2, .int x2), (3, .ref (G.1 + a3)), (4, .int x4), (5, .int x5)]) hx hb dX10_nearest_136 hl (k := 5) rfl (by rw [e_29]; rfl) (by decide) rfl (fun ls hl => ?_)
          refine lv_goto (tgt := 65) hx hb dX10_nearest_139 (by decide) ?_
          obtain rfl := Option.some.inj h
          exact hE _ _ _ hS (lv_sub hl [1, 2, 3, 4, 5, 0] rfl)
        · replace h := ifn c_27 h
          refine lv_aload_n hx hb dX10_nearest_109 rfl (lv_at hl 2 rfl) ?_
          refine lv_aload_n hx hb dX10_nearest_110 rfl (lv_at hl 0 rfl) ?_
          refine r_gR C hS fl_X10_77 rfl rfl rfl dX10_nearest_111 ?_
          refine lv_iload hx hb dX10_nearest_114 (lv_at hl 5 rfl) ?_
          obtain ⟨⟨r_30, M_31⟩, hq_32, h⟩ := ob h
          try dsimp only at h
          refine r_thenI hS (r_runV C hS hl.1 cv_X10_215 k3 (c_X9_farFrom l G F a3 x6 M_25 k3 _ hq_32) ⟨by decide, by decide⟩ rfl rfl (Nat.le_of_ble_eq_true rfl) ⟨Nat.zero_le _, Nat.zero_le _⟩ dX10_nearest_116) (fun H locs hS => ?_)
          refine lv_istore (lv' := [(7, .int r_30), (0, .ref (G.1 + 0)), (2, .int x2), (3, .ref (G.1 + a3)), (4, .int x4), (5, .int x5), (6, .int x6)]) hx hb dX10_nearest_119 hl (by decide) rfl (fun ls hl => ?_)
          refine lv_iload hx hb dX10_nearest_121 (lv_at hl 0 rfl) ?_
          refine lv_iload hx hb dX10_nearest_123 (lv_at hl 5 rfl) ?_
          refine lv_icmp_ge (tgt := 136) hx hb dX10_nearest_125 (by decide) (fun c_33 => ?_) (fun c_33 => ?_)
          · replace h := ifp c_33 h
            obtain ⟨x6_34, e_35, h⟩ := olt h
            refine lv_iinc (v := x6_34) (lv' := [(6, .int x6_34), (7, .int r_30), (0, .ref (G.1 + 0)), (2, .int x2), (3, .ref (G.1 + a3)), (4, .int x4), (5, .int x5)]) hx hb dX10_nearest_136 hl (k := 6) rfl (by rw [e_35]; rfl) (by decide) rfl (fun ls hl => ?_)
            refine lv_goto (tgt := 65) hx hb dX10_nearest_139 (by decide) ?_
            obtain rfl := Option.some.inj h
            exact hE _ _ _ hS (lv_sub hl [2, 3, 4, 5, 6, 0] rfl)
          · replace h := ifn c_33 h
            refine lv_iload hx hb dX10_nearest_128 (lv_at hl 6 rfl) ?_
            refine lv_istore (lv' := [(4, .int x6), (7, .int r_30), (0, .ref (G.1 + 0)), (2, .int x2), (3, .ref (G.1 + a3)), (5, .int x5), (6, .int x6)]) hx hb dX10_nearest_130 hl (by decide) rfl (fun ls hl => ?_)
            refine lv_iload hx hb dX10_nearest_132 (lv_at hl 1 rfl) ?_
            refine lv_istore (lv' := [(5, .int r_30), (4, .int x6), (7, .int r_30), (0, .ref (G.1 + 0)), (2, .int x2), (3, .ref (G.1 + a3)), (6, .int x6)]) hx hb dX10_nearest_134 hl (by decide) rfl (fun ls hl => ?_)
            obtain ⟨x6_36, e_37, h⟩ := olt h
            refine lv_iinc (v := x6_36) (lv' := [(6, .int x6_36), (5, .int r_30), (4, .int x6), (7, .int r_30), (0, .ref (G.1 + 0)), (2, .int x2), (3, .ref (G.1 + a3))]) hx hb dX10_nearest_136 hl (k := 6) rfl (by rw [e_37]; rfl) (by decide) rfl (fun ls hl => ?_)
            refine lv_goto (tgt := 65) hx hb dX10_nearest_139 (by decide) ?_
            obtain rfl := Option.some.inj h
            exact hE _ _ _ hS (lv_sub hl [4, 5, 6, 2, 1, 0] rfl)
set_option maxHeartbeats 4000000 in
set_option maxRecDepth 100000 in
theorem w_NW_nearest_J142 {G : Gl} {p : Program} {l : Launch} {e : Env} {s : State} {m : MethodId} {args : Array Value} {below : List Frame} {meth : Method} {c : Code} (C : Cx G cX10_nearest 8 RX10 p s m args c) (hr : meth.sig.returnType = (some .int)) (hlk : meth.locks = false) (F : Nat) (x2 : Int32) (x4 : Int32) (x5 : Int32) (M : zM)  (q : Int32 × zM) (h : NW_nearest_J142 F x2 x4 x5 M = some q) (H : Heap) (locs : List Loc) (ls : Array Slot) (hS : St G M s H locs) (hl : lv_has ls 8 [(2, .int x2), (4, .int x4), (5, .int x5)]) : W p l e (rmM 3 87) s m args below meth c H locs 0 0 (MQ below (PoI G q) args s 0 0 (gA G)) (F0 m 142 ls []) := by
  obtain ⟨hx, hb, -⟩ := id C
  unfold NW_nearest_J142 at h
  refine lv_iload_n hx hb dX10_nearest_142 rfl (lv_at hl 0 rfl) ?_
  refine lv_if_eq (tgt := 152) hx hb dX10_nearest_143 (by decide) (fun c_44 => ?_) (fun c_44 => ?_)
  · replace h := ifp c_44 h
    refine lv_iload hx hb dX10_nearest_152 (lv_at hl 1 rfl) ?_
    refine lv_goto (tgt := 159) hx hb dX10_nearest_154 (by decide) ?_
    exact r_iret C hS hr hlk h dX10_nearest_159
  · replace h := ifn c_44 h
    refine lv_iload hx hb dX10_nearest_146 (lv_at hl 1 rfl) ?_
    refine lv_iconst (v := (-1)) hx hb dX10_nearest_148 (by decide) ?_
    refine lv_icmp_ne (tgt := 157) hx hb dX10_nearest_149 (by decide) (fun c_45 => ?_) (fun c_45 => ?_)
    · replace h := ifn c_45 h
      refine lv_iload hx hb dX10_nearest_157 (lv_at hl 2 rfl) ?_
      exact r_iret C hS hr hlk h dX10_nearest_159
    · replace h := ifp c_45 h
      refine lv_iload hx hb dX10_nearest_152 (lv_at hl 1 rfl) ?_
      refine lv_goto (tgt := 159) hx hb dX10_nearest_154 (by decide) ?_
      exact r_iret C hS hr hlk h dX10_nearest_159
set_option maxHeartbeats 4000000 in
set_option maxRecDepth 100000 in
theorem w_NW_nearest_J24 {G : Gl} {p : Program} {l : Launch} {e : Env} {s : State} {m : MethodId} {args : Array Value} {below : List Frame} {meth : Method} {c : Code} (C : Cx G cX10_nearest 8 RX10 p s m args c) (hr : meth.sig.returnType = (some .int)) (hlk : meth.locks = false) (F : Nat) (x1 : Int32) (x2 : Int32) (M : zM)  (q : Int32 × zM) (h : NW_nearest_J24 F x1 x2 M = some q) (H : Heap) (locs : List Loc) (ls : Array Slot) (hS : St G M s H locs) (hl : lv_has ls 8 [(0, .ref (G.1 + 0)), (1, .int x1), (2, .int x2)]) : W p l e (rmM 3 87) s m args below meth c H locs 0 0 (MQ below (PoI G q) args s 0 0 (gA G)) (F0 m 24 ls []) := by
  obtain ⟨hx, hb, -⟩ := id C
  unfold NW_nearest_J24 at h
  refine lv_aload_n hx hb dX10_nearest_24 rfl (lv_at hl 0 rfl) ?_
  refine r_gR C hS fl_X10_70 rfl rfl rfl dX10_nearest_25 ?_
  refine lv_iconst (v := 0) hx hb dX10_nearest_28 (by decide) ?_
  refine lv_aload_n hx hb dX10_nearest_29 rfl (lv_at hl 0 rfl) ?_
  refine r_gR C hS fl_X10_62 rfl rfl rfl dX10_nearest_30 ?_
  obtain ⟨⟨_r_6, M_7⟩, hq_8, h⟩ := ob h
  try dsimp only at h
  refine r_thenV hS (r_runV C hS hl.1 cv_X10_192 rfl (c_X6_put l G F 57 0 55 M rfl rfl _ hq_8) ⟨by decide, by decide⟩ rfl rfl (Nat.le_of_ble_eq_true rfl) ⟨Nat.zero_le _, Nat.zero_le _⟩ dX10_nearest_33) (fun H locs hS => ?_)
  refine lv_aload_n hx hb dX10_nearest_36 rfl (lv_at hl 0 rfl) ?_
  refine r_gR C hS fl_X10_77 rfl rfl rfl dX10_nearest_37 ?_
  refine lv_aload_n hx hb dX10_nearest_40 rfl (lv_at hl 0 rfl) ?_
  refine r_gR C hS fl_X10_70 rfl rfl rfl dX10_nearest_41 ?_
  refine lv_iconst (v := 0) hx hb dX10_nearest_44 (by decide) ?_
  obtain ⟨⟨_r_9, M_10⟩, hq_11, h⟩ := ob h
  try dsimp only at h
  refine r_thenV hS (r_runV C hS hl.1 cv_X10_204 rfl (c_X1_from l G F 57 0 M_7 rfl _ hq_11) ⟨by decide, by decide⟩ rfl rfl (Nat.le_of_ble_eq_true rfl) ⟨Nat.zero_le _, Nat.zero_le _⟩ dX10_nearest_45) (fun H locs hS => ?_)
  refine lv_aload_n hx hb dX10_nearest_48 rfl (lv_at hl 0 rfl) ?_
  refine r_gR C hS fl_X10_34 rfl rfl rfl dX10_nearest_49 ?_
  refine lv_iload_n hx hb dX10_nearest_52 rfl (lv_at hl 1 rfl) ?_
  obtain ⟨b_12, h⟩ := ift h
  refine r_aald C hS rfl rfl b_12 (zR_13 b_12) dX10_nearest_53 ?_
  refine lv_astore_n (lv' := [(3, .ref (G.1 + tgA x1)), (0, .ref (G.1 + 0)), (1, .int x1), (2, .int x2)]) hx hb dX10_nearest_54 rfl hl (by decide) rfl (fun ls hl => ?_)
  refine lv_iconst (v := (-1)) hx hb dX10_nearest_55 (by decide) ?_
  refine lv_istore (lv' := [(4, .int (-1)), (3, .ref (G.1 + tgA x1)), (0, .ref (G.1 + 0)), (1, .int x1), (2, .int x2)]) hx hb dX10_nearest_56 hl (by decide) rfl (fun ls hl => ?_)
  refine lv_bipush (v := 61) hx hb dX10_nearest_58 (by decide) ?_
  refine lv_istore (lv' := [(5, .int 61), (4, .int (-1)), (3, .ref (G.1 + tgA x1)), (0, .ref (G.1 + 0)), (1, .int x1), (2, .int x2)]) hx hb dX10_nearest_60 hl (by decide) rfl (fun ls hl => ?_)
  refine lv_iconst (v := 0) hx hb dX10_nearest_62 (by decide) ?_
  refine lv_istore (lv' := [(6, .int 0), (5, .int 61), (4, .int (-1)), (3, .ref (G.1 + tgA x1)), (0, .ref (G.1 + 0)), (1, .int x1), (2, .int x2)]) hx hb dX10_nearest_63 hl (by decide) rfl (fun ls hl => ?_)
  obtain ⟨⟨k_42, x4_38, x5_39, x6_40, M_41⟩, hq_43, h⟩ := ob h
  try dsimp only at h
  refine loopW (E := (E_NW_nearest_65 G p l e s m _ below meth c _ x2 (tgA x1))) (w_NW_nearest_B65 C x2 (tgA x1) (zK_13 b_12) F) F _ _ hq_43 ?_ _ _ _ hS (lv_sub hl [4, 6, 3, 2, 1, 0] rfl)
  by_cases ek_46 : k_42 = 1
  · replace h := ifp ek_46 h
    subst ek_46
    intro H locs ls hS hl
    exact w_NW_nearest_J142 C hr hlk F x2 x4_38 x5_39 M_41  q h _ _ _ hS (lv_sub hl [0, 1, 2] rfl)
  · replace h := ifn ek_46 h
    cases h
set_option maxHeartbeats 4000000 in
set_option maxRecDepth 100000 in
theorem c_X10_nearest (l : Launch) (G : Gl) (F : Nat) (x1 : Int32) (x2 : Int32) (M : zM)  (q : Int32 × zM) (h : NW_nearest F x1 x2 M = some q) : Met l yX10_nearest (wsM yX10_nearest cX10_nearest 8 (some .int)) (rmM 3 87) (Pre G M [.ref (G.1 + 0), .int x1, .int x2]) (PoI G q) 0 0 (gA G) := by
  refine r_met (own := RX10) rfl (by decide) (Nat.le_of_ble_eq_true rfl) ?_
  intro p e s m below meth c ls C hr hlk hS hl
  have hl : lv_has ls 8 [(0, .ref (G.1 + 0)), (1, .int x1), (2, .int x2)] := hl
  obtain ⟨hx, hb, -⟩ := id C
  unfold NW_nearest at h
  refine lv_iload_n hx hb dX10_nearest_0 rfl (lv_at hl 1 rfl) ?_
  obtain ⟨⟨r_1, M_2⟩, hq_3, h⟩ := ob h
  try dsimp only at h
  refine r_thenI hS (r_runS C hS hl.1 cs_X10_100 (c_X10_isTongue l G F x1 M  _ hq_3) ⟨by decide, by decide⟩ rfl rfl (Nat.le_of_ble_eq_true rfl) ⟨Nat.zero_le _, Nat.zero_le _⟩ dX10_nearest_1) (fun H locs hS => ?_)
  refine lv_if_ne (tgt := 11) hx hb dX10_nearest_4 (by decide) (fun c_4 => ?_) (fun c_4 => ?_)
  · replace h := ifn c_4 h
    refine lv_iload_n hx hb dX10_nearest_11 rfl (lv_at hl 2 rfl) ?_
    refine lv_if_eq (tgt := 24) hx hb dX10_nearest_12 (by decide) (fun c_5 => ?_) (fun c_5 => ?_)
    · replace h := ifp c_5 h
      exact w_NW_nearest_J24 C hr hlk F x1 x2 M_2  q h _ _ _ hS (lv_sub hl [0, 1, 2] rfl)
    · replace h := ifn c_5 h
      refine lv_iload_n hx hb dX10_nearest_15 rfl (lv_at hl 2 rfl) ?_
      refine lv_iconst (v := 1) hx hb dX10_nearest_16 (by decide) ?_
      refine lv_icmp_eq (tgt := 24) hx hb dX10_nearest_17 (by decide) (fun c_47 => ?_) (fun c_47 => ?_)
      · replace h := ifp c_47 h
        exact w_NW_nearest_J24 C hr hlk F x1 x2 M_2  q h _ _ _ hS (lv_sub hl [0, 1, 2] rfl)
      · replace h := ifn c_47 h
        refine lv_sipush (v := (-1002)) hx hb dX10_nearest_20 (by decide) ?_
        exact r_iret C hS hr hlk h dX10_nearest_23
  · replace h := ifp c_4 h
    refine lv_sipush (v := (-1001)) hx hb dX10_nearest_7 (by decide) ?_
    exact r_iret C hS hr hlk h dX10_nearest_10

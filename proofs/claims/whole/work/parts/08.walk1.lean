set_option maxHeartbeats 4000000 in
set_option maxRecDepth 100000 in
theorem c_X0_empty (l : Launch) (G : Gl) (F : Nat)  (M : zM)  (q : Unit × zM) (h : Cla_empty F  M = some q) : Met l yX0_empty (wsM yX0_empty cX0_empty 1 none) (rmM 0 0) (Pre G M [.ref (G.1 + 3)]) (PoV G q) 0 0 (gA G) := by
  refine r_met (own := RX0) rfl (by decide) (Nat.le_of_ble_eq_true rfl) ?_
  intro p e s m below meth c ls C hr hlk hS hl
  have hl : lv_has ls 1 [(0, .ref (G.1 + 3))] := hl
  obtain ⟨hx, hb, -⟩ := id C
  unfold Cla_empty at h
  refine lv_aload_n hx hb dX0_empty_0 rfl (lv_at hl 0 rfl) ?_
  refine lv_iconst (v := 0) hx hb dX0_empty_1 (by decide) ?_
  obtain ⟨M_1, e_2, h⟩ := olt h
  refine r_pI C hS fp_X0_36 rfl rfl e_2 dX0_empty_2 (fun H locs hS => ?_)
  exact r_vret C hS hr hlk h dX0_empty_5
set_option maxHeartbeats 4000000 in
set_option maxRecDepth 100000 in
theorem c_X0_count (l : Launch) (G : Gl) (F : Nat)  (M : zM)  (q : Int32 × zM) (h : Cla_count F  M = some q) : Met l yX0_count (wsM yX0_count cX0_count 1 (some .int)) (rmM 0 0) (Pre G M [.ref (G.1 + 3)]) (PoI G q) 0 0 (gA G) := by
  refine r_met (own := RX0) rfl (by decide) (Nat.le_of_ble_eq_true rfl) ?_
  intro p e s m below meth c ls C hr hlk hS hl
  have hl : lv_has ls 1 [(0, .ref (G.1 + 3))] := hl
  obtain ⟨hx, hb, -⟩ := id C
  unfold Cla_count at h
  refine lv_aload_n hx hb dX0_count_0 rfl (lv_at hl 0 rfl) ?_
  refine r_gI C hS fl_X0_36 rfl rfl dX0_count_1 ?_
  exact r_iret C hS hr hlk h dX0_count_4
set_option maxHeartbeats 4000000 in
set_option maxRecDepth 100000 in
theorem c_X0_isFull (l : Launch) (G : Gl) (F : Nat)  (M : zM)  (q : Int32 × zM) (h : Cla_isFull F  M = some q) : Met l yX0_isFull (wsM yX0_isFull cX0_isFull 1 (some .boolean)) (rmM 0 0) (Pre G M [.ref (G.1 + 3)]) (PoI G q) 0 0 (gA G) := by
  refine r_met (own := RX0) rfl (by decide) (Nat.le_of_ble_eq_true rfl) ?_
  intro p e s m below meth c ls C hr hlk hS hl
  have hl : lv_has ls 1 [(0, .ref (G.1 + 3))] := hl
  obtain ⟨hx, hb, -⟩ := id C
  unfold Cla_isFull at h
  refine lv_aload_n hx hb dX0_isFull_0 rfl (lv_at hl 0 rfl) ?_
  refine r_gI C hS fl_X0_36 rfl rfl dX0_isFull_1 ?_
  refine lv_bipush (v := 12) hx hb dX0_isFull_4 (by decide) ?_
  refine lv_icmp_lt (tgt := 13) hx hb dX0_isFull_6 (by decide) (fun c_1 => ?_) (fun c_1 => ?_)
  · replace h := ifp c_1 h
    refine lv_iconst (v := 0) hx hb dX0_isFull_13 (by decide) ?_
    exact r_zret C hS hr hlk h dX0_isFull_14
  · replace h := ifn c_1 h
    refine lv_iconst (v := 1) hx hb dX0_isFull_9 (by decide) ?_
    refine lv_goto (tgt := 14) hx hb dX0_isFull_10 (by decide) ?_
    exact r_zret C hS hr hlk h dX0_isFull_14
set_option maxHeartbeats 4000000 in
set_option maxRecDepth 100000 in
theorem c_X0_isWord (l : Launch) (G : Gl) (F : Nat) (x1 : Int32) (M : zM)  (q : Int32 × zM) (h : Cla_isWord F x1 M = some q) : Met l yX0_isWord (wsM yX0_isWord cX0_isWord 2 (some .boolean)) (rmM 0 0) (Pre G M [.ref (G.1 + 3), .int x1]) (PoI G q) 0 0 (gA G) := by
  refine r_met (own := RX0) rfl (by decide) (Nat.le_of_ble_eq_true rfl) ?_
  intro p e s m below meth c ls C hr hlk hS hl
  have hl : lv_has ls 2 [(0, .ref (G.1 + 3)), (1, .int x1)] := hl
  obtain ⟨hx, hb, -⟩ := id C
  unfold Cla_isWord at h
  refine lv_aload_n hx hb dX0_isWord_0 rfl (lv_at hl 0 rfl) ?_
  refine r_gR C hS fl_X0_16 rfl rfl rfl dX0_isWord_1 ?_
  refine lv_iload_n hx hb dX0_isWord_4 rfl (lv_at hl 1 rfl) ?_
  obtain ⟨b_1, h⟩ := ift h
  refine r_iald C hS rfl rfl b_1 dX0_isWord_5 ?_
  refine lv_if_ne (tgt := 13) hx hb dX0_isWord_6 (by decide) (fun c_2 => ?_) (fun c_2 => ?_)
  · replace h := ifn c_2 h
    refine lv_iconst (v := 0) hx hb dX0_isWord_13 (by decide) ?_
    exact r_zret C hS hr hlk h dX0_isWord_14
  · replace h := ifp c_2 h
    refine lv_iconst (v := 1) hx hb dX0_isWord_9 (by decide) ?_
    refine lv_goto (tgt := 14) hx hb dX0_isWord_10 (by decide) ?_
    exact r_zret C hS hr hlk h dX0_isWord_14
def E_Cla_hasWord_2 (G : Gl) (p : Program) (l : Launch) (e : Env) (s : State) (m : MethodId) (args : Array Value) (below : List Frame) (meth : Method) (c : Code) (Q : State → Prop) (x1 : Int32) : Nat → (Int32 × zM) → Prop := fun k (x2, M) => match k with
  | 0 => ∀ (H : Heap) (locs : List Loc) (ls : Array Slot), St G M s H locs → lv_has ls 3 [(0, .ref (G.1 + 3)), (1, .int x1), (2, .int x2)] → W p l e (rmM 1 21) s m args below meth c H locs 0 0 Q (F0 m 2 ls [])
  | 1 => ∀ (H : Heap) (locs : List Loc) (ls : Array Slot), St G M s H locs → lv_has ls 3 [] → W p l e (rmM 1 21) s m args below meth c H locs 0 0 Q (F0 m 28 ls [])
  | 2 => ∀ (H : Heap) (locs : List Loc) (ls : Array Slot), St G M s H locs → lv_has ls 3 [] → W p l e (rmM 1 21) s m args below meth c H locs 0 0 Q (F0 m 36 ls [])
  | _ => True
set_option maxHeartbeats 4000000 in
set_option maxRecDepth 100000 in
theorem w_Cla_hasWord_B2 {G : Gl} {p : Program} {l : Launch} {e : Env} {s : State} {m : MethodId} {args : Array Value} {below : List Frame} {meth : Method} {c : Code} {Q : State → Prop} (C : Cx G cX0_hasWord 3 RX0 p s m args c) (x1 : Int32) (F : Nat) : ∀ (σ : (Int32 × zM)) (q : Nat × (Int32 × zM)), Cla_hasWord_B2 F x1 σ = some q → (E_Cla_hasWord_2 G p l e s m args below meth c Q x1) q.1 q.2 → (E_Cla_hasWord_2 G p l e s m args below meth c Q x1) 0 σ := by
  intro (x2, M) q h hE H locs ls hS hl
  obtain ⟨hx, hb, -⟩ := id C
  unfold Cla_hasWord_B2 at h
  try dsimp only at h
  refine lv_iload_n hx hb dX0_hasWord_2 rfl (lv_at hl 2 rfl) ?_
  refine lv_aload_n hx hb dX0_hasWord_3 rfl (lv_at hl 0 rfl) ?_
  refine r_gI C hS fl_X0_36 rfl rfl dX0_hasWord_4 ?_
  refine lv_icmp_ge (tgt := 36) hx hb dX0_hasWord_7 (by decide) (fun c_1 => ?_) (fun c_1 => ?_)
  · replace h := ifp c_1 h
    obtain rfl := Option.some.inj h
    exact hE _ _ _ hS (lv_sub hl [] rfl)
  · replace h := ifn c_1 h
    refine lv_aload_n hx hb dX0_hasWord_10 rfl (lv_at hl 0 rfl) ?_
    refine lv_iload_n hx hb dX0_hasWord_11 rfl (lv_at hl 2 rfl) ?_
    obtain ⟨⟨r_2, M_3⟩, hq_4, h⟩ := ob h
    try dsimp only at h
    refine r_thenI hS (r_runV C hS hl.1 cv_X0_40 rfl (c_X0_isWord l G F x2 M  _ hq_4) ⟨by decide, by decide⟩ rfl rfl (Nat.le_of_ble_eq_true rfl) ⟨Nat.zero_le _, Nat.zero_le _⟩ dX0_hasWord_12) (fun H locs hS => ?_)
    refine lv_if_eq (tgt := 30) hx hb dX0_hasWord_15 (by decide) (fun c_5 => ?_) (fun c_5 => ?_)
    · replace h := ifp c_5 h
      obtain ⟨x2_6, e_7, h⟩ := olt h
      refine lv_iinc (v := x2_6) (lv' := [(2, .int x2_6), (0, .ref (G.1 + 3)), (1, .int x1)]) hx hb dX0_hasWord_30 hl (k := 2) rfl (by rw [e_7]; rfl) (by decide) rfl (fun ls hl => ?_)
      refine lv_goto (tgt := 2) hx hb dX0_hasWord_33 (by decide) ?_
      obtain rfl := Option.some.inj h
      exact hE _ _ _ hS (lv_sub hl [1, 2, 0] rfl)
    · replace h := ifn c_5 h
      refine lv_aload_n hx hb dX0_hasWord_18 rfl (lv_at hl 0 rfl) ?_
      refine r_gR C hS fl_X0_9 rfl rfl rfl dX0_hasWord_19 ?_
      refine lv_iload_n hx hb dX0_hasWord_22 rfl (lv_at hl 2 rfl) ?_
      obtain ⟨b_8, h⟩ := ift h
      refine r_iald C hS rfl rfl b_8 dX0_hasWord_23 ?_
      refine lv_iload_n hx hb dX0_hasWord_24 rfl (lv_at hl 1 rfl) ?_
      refine lv_icmp_ne (tgt := 30) hx hb dX0_hasWord_25 (by decide) (fun c_9 => ?_) (fun c_9 => ?_)
      · replace h := ifn c_9 h
        obtain ⟨x2_10, e_11, h⟩ := olt h
        refine lv_iinc (v := x2_10) (lv' := [(2, .int x2_10), (0, .ref (G.1 + 3)), (1, .int x1)]) hx hb dX0_hasWord_30 hl (k := 2) rfl (by rw [e_11]; rfl) (by decide) rfl (fun ls hl => ?_)
        refine lv_goto (tgt := 2) hx hb dX0_hasWord_33 (by decide) ?_
        obtain rfl := Option.some.inj h
        exact hE _ _ _ hS (lv_sub hl [1, 2, 0] rfl)
      · replace h := ifp c_9 h
        obtain rfl := Option.some.inj h
        exact hE _ _ _ hS (lv_sub hl [] rfl)
set_option maxHeartbeats 4000000 in
set_option maxRecDepth 100000 in
theorem c_X0_hasWord (l : Launch) (G : Gl) (F : Nat) (x1 : Int32) (M : zM)  (q : Int32 × zM) (h : Cla_hasWord F x1 M = some q) : Met l yX0_hasWord (wsM yX0_hasWord cX0_hasWord 3 (some .boolean)) (rmM 1 21) (Pre G M [.ref (G.1 + 3), .int x1]) (PoI G q) 0 0 (gA G) := by
  refine r_met (own := RX0) rfl (by decide) (Nat.le_of_ble_eq_true rfl) ?_
  intro p e s m below meth c ls C hr hlk hS hl
  have hl : lv_has ls 3 [(0, .ref (G.1 + 3)), (1, .int x1)] := hl
  obtain ⟨hx, hb, -⟩ := id C
  unfold Cla_hasWord at h
  refine lv_iconst (v := 0) hx hb dX0_hasWord_0 (by decide) ?_
  refine lv_istore_n (lv' := [(2, .int 0), (0, .ref (G.1 + 3)), (1, .int x1)]) hx hb dX0_hasWord_1 rfl hl (by decide) rfl (fun ls hl => ?_)
  obtain ⟨⟨k_14, x2_12, M_13⟩, hq_15, h⟩ := ob h
  try dsimp only at h
  refine loopW (E := (E_Cla_hasWord_2 G p l e s m _ below meth c _ x1)) (w_Cla_hasWord_B2 C x1 F) F _ _ hq_15 ?_ _ _ _ hS (lv_sub hl [1, 2, 0] rfl)
  by_cases ek_17 : k_14 = 1
  · replace h := ifp ek_17 h
    subst ek_17
    intro H locs ls hS hl
    refine lv_iconst (v := 1) hx hb dX0_hasWord_28 (by decide) ?_
    exact r_zret C hS hr hlk h dX0_hasWord_29
  · replace h := ifn ek_17 h
    by_cases ek_16 : k_14 = 2
    · replace h := ifp ek_16 h
      subst ek_16
      intro H locs ls hS hl
      refine lv_iconst (v := 0) hx hb dX0_hasWord_36 (by decide) ?_
      exact r_zret C hS hr hlk h dX0_hasWord_37
    · replace h := ifn ek_16 h
      cases h
set_option maxHeartbeats 4000000 in
set_option maxRecDepth 100000 in
theorem c_X0_open (l : Launch) (G : Gl) (F : Nat) (x1 : Int32) (x2 : Int32) (x3 : Int32) (M : zM)  (q : Unit × zM) (h : Cla_open F x1 x2 x3 M = some q) : Met l yX0_open (wsM yX0_open cX0_open 4 none) (rmM 0 0) (Pre G M [.ref (G.1 + 3), .int x1, .int x2, .int x3]) (PoV G q) 0 0 (gA G) := by
  refine r_met (own := RX0) rfl (by decide) (Nat.le_of_ble_eq_true rfl) ?_
  intro p e s m below meth c ls C hr hlk hS hl
  have hl : lv_has ls 4 [(0, .ref (G.1 + 3)), (1, .int x1), (2, .int x2), (3, .int x3)] := hl
  obtain ⟨hx, hb, -⟩ := id C
  unfold Cla_open at h
  refine lv_aload_n hx hb dX0_open_0 rfl (lv_at hl 0 rfl) ?_
  refine r_gI C hS fl_X0_36 rfl rfl dX0_open_1 ?_
  refine lv_bipush (v := 12) hx hb dX0_open_4 (by decide) ?_
  refine lv_icmp_ge (tgt := 59) hx hb dX0_open_6 (by decide) (fun c_1 => ?_) (fun c_1 => ?_)
  · replace h := ifp c_1 h
    exact r_vret C hS hr hlk h dX0_open_59
  · replace h := ifn c_1 h
    refine lv_aload_n hx hb dX0_open_9 rfl (lv_at hl 0 rfl) ?_
    refine r_gR C hS fl_X0_9 rfl rfl rfl dX0_open_10 ?_
    refine lv_aload_n hx hb dX0_open_13 rfl (lv_at hl 0 rfl) ?_
    refine r_gI C hS fl_X0_36 rfl rfl dX0_open_14 ?_
    refine lv_iload_n hx hb dX0_open_17 rfl (lv_at hl 1 rfl) ?_
    obtain ⟨b_2, h⟩ := ift h
    obtain ⟨M_3, e_4, h⟩ := olt h
    refine r_iast C hS rfl rfl b_2 e_4 dX0_open_18 (fun H locs hS => ?_)
    refine lv_aload_n hx hb dX0_open_19 rfl (lv_at hl 0 rfl) ?_
    refine r_gR C hS fl_X0_13 rfl rfl rfl dX0_open_20 ?_
    refine lv_aload_n hx hb dX0_open_23 rfl (lv_at hl 0 rfl) ?_
    refine r_gI C hS fl_X0_36 rfl rfl dX0_open_24 ?_
    refine lv_iload_n hx hb dX0_open_27 rfl (lv_at hl 2 rfl) ?_
    obtain ⟨b_5, h⟩ := ift h
    obtain ⟨M_6, e_7, h⟩ := olt h
    refine r_iast C hS rfl rfl b_5 e_7 dX0_open_28 (fun H locs hS => ?_)
    refine lv_aload_n hx hb dX0_open_29 rfl (lv_at hl 0 rfl) ?_
    refine r_gR C hS fl_X0_16 rfl rfl rfl dX0_open_30 ?_
    refine lv_aload_n hx hb dX0_open_33 rfl (lv_at hl 0 rfl) ?_
    refine r_gI C hS fl_X0_36 rfl rfl dX0_open_34 ?_
    refine lv_iload_n hx hb dX0_open_37 rfl (lv_at hl 3 rfl) ?_
    obtain ⟨b_8, h⟩ := ift h
    obtain ⟨M_9, e_10, h⟩ := olt h
    refine r_iast C hS rfl rfl b_8 e_10 dX0_open_38 (fun H locs hS => ?_)
    refine lv_aload_n hx hb dX0_open_39 rfl (lv_at hl 0 rfl) ?_
    refine r_gR C hS fl_X0_19 rfl rfl rfl dX0_open_40 ?_
    refine lv_aload_n hx hb dX0_open_43 rfl (lv_at hl 0 rfl) ?_
    refine r_gI C hS fl_X0_36 rfl rfl dX0_open_44 ?_
    refine lv_iconst (v := 0) hx hb dX0_open_47 (by decide) ?_
    obtain ⟨b_11, h⟩ := ift h
    obtain ⟨M_12, e_13, h⟩ := olt h
    refine r_iast C hS rfl rfl b_11 e_13 dX0_open_48 (fun H locs hS => ?_)
    refine lv_aload_n hx hb dX0_open_49 rfl (lv_at hl 0 rfl) ?_
    refine lv_dup hx hb dX0_open_50 rfl ?_
    refine r_gI C hS fl_X0_36 rfl rfl dX0_open_51 ?_
    refine lv_iconst (v := 1) hx hb dX0_open_54 (by decide) ?_
    refine lv_iadd hx hb dX0_open_55 ?_
    obtain ⟨M_14, e_15, h⟩ := olt h
    refine r_pI C hS fp_X0_36 rfl rfl e_15 dX0_open_56 (fun H locs hS => ?_)
    exact r_vret C hS hr hlk h dX0_open_59
set_option maxHeartbeats 4000000 in
set_option maxRecDepth 100000 in
theorem c_X0_latestParts (l : Launch) (G : Gl) (F : Nat)  (M : zM)  (q : Int32 × zM) (h : Cla_latestParts F  M = some q) : Met l yX0_latestParts (wsM yX0_latestParts cX0_latestParts 1 (some .int)) (rmM 0 0) (Pre G M [.ref (G.1 + 3)]) (PoI G q) 0 0 (gA G) := by
  refine r_met (own := RX0) rfl (by decide) (Nat.le_of_ble_eq_true rfl) ?_
  intro p e s m below meth c ls C hr hlk hS hl
  have hl : lv_has ls 1 [(0, .ref (G.1 + 3))] := hl
  obtain ⟨hx, hb, -⟩ := id C
  unfold Cla_latestParts at h
  refine lv_aload_n hx hb dX0_latestParts_0 rfl (lv_at hl 0 rfl) ?_
  refine r_gI C hS fl_X0_36 rfl rfl dX0_latestParts_1 ?_
  refine lv_if_ne (tgt := 11) hx hb dX0_latestParts_4 (by decide) (fun c_1 => ?_) (fun c_1 => ?_)
  · replace h := ifn c_1 h
    refine lv_aload_n hx hb dX0_latestParts_11 rfl (lv_at hl 0 rfl) ?_
    refine r_gR C hS fl_X0_19 rfl rfl rfl dX0_latestParts_12 ?_
    refine lv_aload_n hx hb dX0_latestParts_15 rfl (lv_at hl 0 rfl) ?_
    refine r_gI C hS fl_X0_36 rfl rfl dX0_latestParts_16 ?_
    refine lv_iconst (v := 1) hx hb dX0_latestParts_19 (by decide) ?_
    refine lv_isub hx hb dX0_latestParts_20 ?_
    obtain ⟨b_2, h⟩ := ift h
    refine r_iald C hS rfl rfl b_2 dX0_latestParts_21 ?_
    exact r_iret C hS hr hlk h dX0_latestParts_22
  · replace h := ifp c_1 h
    refine lv_iconst (v := 0) hx hb dX0_latestParts_7 (by decide) ?_
    refine lv_goto (tgt := 22) hx hb dX0_latestParts_8 (by decide) ?_
    exact r_iret C hS hr hlk h dX0_latestParts_22
set_option maxHeartbeats 4000000 in
set_option maxRecDepth 100000 in
theorem c_X0_addPart (l : Launch) (G : Gl) (F : Nat) (x1 : Int32) (x2 : Int32) (x3 : Int64) (x5 : Int32) (M : zM)  (q : Unit × zM) (h : Cla_addPart F x1 x2 x3 x5 M = some q) : Met l yX0_addPart (wsM yX0_addPart cX0_addPart 7 none) (rmM 0 0) (Pre G M [.ref (G.1 + 3), .int x1, .int x2, .long x3, .int x5]) (PoV G q) 0 0 (gA G) := by
  refine r_met (own := RX0) rfl (by decide) (Nat.le_of_ble_eq_true rfl) ?_
  intro p e s m below meth c ls C hr hlk hS hl
  have hl : lv_has ls 7 [(0, .ref (G.1 + 3)), (1, .int x1), (2, .int x2), (3, .long x3), (5, .int x5)] := hl
  obtain ⟨hx, hb, -⟩ := id C
  unfold Cla_addPart at h
  refine lv_aload_n hx hb dX0_addPart_0 rfl (lv_at hl 0 rfl) ?_
  refine r_gI C hS fl_X0_36 rfl rfl dX0_addPart_1 ?_
  refine lv_if_le (tgt := 94) hx hb dX0_addPart_4 (by decide) (fun c_1 => ?_) (fun c_1 => ?_)
  · replace h := ifp c_1 h
    exact r_vret C hS hr hlk h dX0_addPart_94
  · replace h := ifn c_1 h
    refine lv_aload_n hx hb dX0_addPart_7 rfl (lv_at hl 0 rfl) ?_
    refine r_gR C hS fl_X0_19 rfl rfl rfl dX0_addPart_8 ?_
    refine lv_aload_n hx hb dX0_addPart_11 rfl (lv_at hl 0 rfl) ?_
    refine r_gI C hS fl_X0_36 rfl rfl dX0_addPart_12 ?_
    refine lv_iconst (v := 1) hx hb dX0_addPart_15 (by decide) ?_
    refine lv_isub hx hb dX0_addPart_16 ?_
    obtain ⟨b_2, h⟩ := ift h
    refine r_iald C hS rfl rfl b_2 dX0_addPart_17 ?_
    refine lv_bipush (v := 8) hx hb dX0_addPart_18 (by decide) ?_
    refine lv_icmp_ge (tgt := 94) hx hb dX0_addPart_20 (by decide) (fun c_3 => ?_) (fun c_3 => ?_)
    · replace h := ifp c_3 h
      exact r_vret C hS hr hlk h dX0_addPart_94
    · replace h := ifn c_3 h
      refine lv_aload_n hx hb dX0_addPart_23 rfl (lv_at hl 0 rfl) ?_
      refine r_gI C hS fl_X0_36 rfl rfl dX0_addPart_24 ?_
      refine lv_iconst (v := 1) hx hb dX0_addPart_27 (by decide) ?_
      refine lv_isub hx hb dX0_addPart_28 ?_
      refine lv_bipush (v := 8) hx hb dX0_addPart_29 (by decide) ?_
      refine lv_imul hx hb dX0_addPart_31 ?_
      refine lv_aload_n hx hb dX0_addPart_32 rfl (lv_at hl 0 rfl) ?_
      refine r_gR C hS fl_X0_19 rfl rfl rfl dX0_addPart_33 ?_
      refine lv_aload_n hx hb dX0_addPart_36 rfl (lv_at hl 0 rfl) ?_
      refine r_gI C hS fl_X0_36 rfl rfl dX0_addPart_37 ?_
      refine lv_iconst (v := 1) hx hb dX0_addPart_40 (by decide) ?_
      refine lv_isub hx hb dX0_addPart_41 ?_
      refine r_iald C hS rfl rfl b_2 dX0_addPart_42 ?_
      refine lv_iadd hx hb dX0_addPart_43 ?_
      obtain ⟨x6_4, e_5, h⟩ := olt h
      refine r_nI e_5 ?_
      refine lv_istore (lv' := [(6, .int x6_4), (0, .ref (G.1 + 3)), (1, .int x1), (2, .int x2), (3, .long x3), (5, .int x5)]) hx hb dX0_addPart_44 hl (by decide) rfl (fun ls hl => ?_)
      refine lv_aload_n hx hb dX0_addPart_46 rfl (lv_at hl 1 rfl) ?_
      refine r_gR C hS fl_X0_22 rfl rfl rfl dX0_addPart_47 ?_
      refine lv_iload hx hb dX0_addPart_50 (lv_at hl 0 rfl) ?_
      refine lv_iload_n hx hb dX0_addPart_52 rfl (lv_at hl 2 rfl) ?_
      obtain ⟨b_6, h⟩ := ift h
      obtain ⟨M_7, e_8, h⟩ := olt h
      refine r_iast C hS rfl rfl b_6 e_8 dX0_addPart_53 (fun H locs hS => ?_)
      refine lv_aload_n hx hb dX0_addPart_54 rfl (lv_at hl 1 rfl) ?_
      refine r_gR C hS fl_X0_25 rfl rfl rfl dX0_addPart_55 ?_
      refine lv_iload hx hb dX0_addPart_58 (lv_at hl 0 rfl) ?_
      refine lv_iload_n hx hb dX0_addPart_60 rfl (lv_at hl 3 rfl) ?_
      obtain ⟨M_9, e_10, h⟩ := olt h
      refine r_zast C hS rfl rfl b_6 e_10 dX0_addPart_61 (fun H locs hS => ?_)
      refine lv_aload_n hx hb dX0_addPart_62 rfl (lv_at hl 1 rfl) ?_
      refine r_gR C hS fl_X0_29 rfl rfl rfl dX0_addPart_63 ?_
      refine lv_iload hx hb dX0_addPart_66 (lv_at hl 0 rfl) ?_
      refine lv_lload_n hx hb dX0_addPart_68 rfl (lv_at hl 4 rfl) ?_
      obtain ⟨M_11, e_12, h⟩ := olt h
      refine r_last C hS rfl rfl b_6 e_12 dX0_addPart_69 (fun H locs hS => ?_)
      refine lv_aload_n hx hb dX0_addPart_70 rfl (lv_at hl 1 rfl) ?_
      refine r_gR C hS fl_X0_33 rfl rfl rfl dX0_addPart_71 ?_
      refine lv_iload hx hb dX0_addPart_74 (lv_at hl 0 rfl) ?_
      refine lv_iload hx hb dX0_addPart_76 (lv_at hl 5 rfl) ?_
      obtain ⟨M_13, e_14, h⟩ := olt h
      refine r_iast C hS rfl rfl b_6 e_14 dX0_addPart_78 (fun H locs hS => ?_)
      refine lv_aload_n hx hb dX0_addPart_79 rfl (lv_at hl 1 rfl) ?_
      refine r_gR C hS fl_X0_19 rfl rfl rfl dX0_addPart_80 ?_
      refine lv_aload_n hx hb dX0_addPart_83 rfl (lv_at hl 1 rfl) ?_
      refine r_gI C hS fl_X0_36 rfl rfl dX0_addPart_84 ?_
      refine lv_iconst (v := 1) hx hb dX0_addPart_87 (by decide) ?_
      refine lv_isub hx hb dX0_addPart_88 ?_
      obtain ⟨d_15, e_16, h⟩ := olt h
      refine r_nI e_16 ?_
      refine lv_dup2_11 hx hb dX0_addPart_89 rfl rfl ?_
      obtain ⟨b_17, h⟩ := ift h
      refine r_iald C hS rfl rfl b_17 dX0_addPart_90 ?_
      refine lv_iconst (v := 1) hx hb dX0_addPart_91 (by decide) ?_
      refine lv_iadd hx hb dX0_addPart_92 ?_
      obtain ⟨M_18, e_19, h⟩ := olt h
      refine r_iast C hS rfl rfl b_17 e_19 dX0_addPart_93 (fun H locs hS => ?_)
      exact r_vret C hS hr hlk h dX0_addPart_94
set_option maxHeartbeats 4000000 in
set_option maxRecDepth 100000 in
theorem c_X1_size (l : Launch) (G : Gl) (F : Nat)  (M : zM)  (q : Int32 × zM) (h : Dis_size F  M = some q) : Met l yX1_size (wsM yX1_size cX1_size 1 (some .int)) (rmM 0 0) (Pre G M [.ref (G.1 + 59)]) (PoI G q) 0 0 (gA G) := by
  refine r_met (own := RX1) rfl (by decide) (Nat.le_of_ble_eq_true rfl) ?_
  intro p e s m below meth c ls C hr hlk hS hl
  have hl : lv_has ls 1 [(0, .ref (G.1 + 59))] := hl
  obtain ⟨hx, hb, -⟩ := id C
  unfold Dis_size at h
  refine lv_aload_n hx hb dX1_size_0 rfl (lv_at hl 0 rfl) ?_
  refine r_gI C hS fl_X1_15 rfl rfl dX1_size_1 ?_
  exact r_iret C hS hr hlk h dX1_size_4
def E_JArr_fill_L_6 (G : Gl) (p : Program) (l : Launch) (e : Env) (s : State) (m : MethodId) (args : Array Value) (below : List Frame) (meth : Method) (c : Code) (Q : State → Prop) (a0 : Nat) (x1 : Int64) (x4 : Int32) : Nat → (Int32 × zM) → Prop := fun k (x3, M) => match k with
  | 0 => ∀ (H : Heap) (locs : List Loc) (ls : Array Slot), St G M s H locs → lv_has ls 5 [(0, .ref (G.1 + a0)), (1, .long x1), (3, .int x3), (4, .int x4)] → W p l e (rmM 0 0) s m args below meth c H locs 0 0 Q (F0 m 6 ls [])
  | 1 => ∀ (H : Heap) (locs : List Loc) (ls : Array Slot), St G M s H locs → lv_has ls 5 [] → W p l e (rmM 0 0) s m args below meth c H locs 0 0 Q (F0 m 22 ls [])
  | _ => True
set_option maxHeartbeats 4000000 in
set_option maxRecDepth 100000 in
theorem w_JArr_fill_L_B6 {G : Gl} {p : Program} {l : Launch} {e : Env} {s : State} {m : MethodId} {args : Array Value} {below : List Frame} {meth : Method} {c : Code} {Q : State → Prop} (C : Cx G cJ7_fill_d0a16 5 RJ7 p s m args c) (a0 : Nat) (x1 : Int64) (x4 : Int32) (k0 : zK a0 = 15) (F : Nat) : ∀ (σ : (Int32 × zM)) (q : Nat × (Int32 × zM)), JArr_fill_L_B6 F a0 x1 x4 σ = some q → (E_JArr_fill_L_6 G p l e s m args below meth c Q a0 x1 x4) q.1 q.2 → (E_JArr_fill_L_6 G p l e s m args below meth c Q a0 x1 x4) 0 σ := by
  intro (x3, M) q h hE H locs ls hS hl
  obtain ⟨hx, hb, -⟩ := id C
  unfold JArr_fill_L_B6 at h
  try dsimp only at h
  refine lv_iload_n hx hb dJ7_fill_d0a16_6 rfl (lv_at hl 2 rfl) ?_
  refine lv_iload hx hb dJ7_fill_d0a16_7 (lv_at hl 3 rfl) ?_
  refine lv_icmp_ge (tgt := 22) hx hb dJ7_fill_d0a16_9 (by decide) (fun c_3 => ?_) (fun c_3 => ?_)
  · replace h := ifp c_3 h
    obtain rfl := Option.some.inj h
    exact hE _ _ _ hS (lv_sub hl [] rfl)
  · replace h := ifn c_3 h
    refine lv_aload_n hx hb dJ7_fill_d0a16_12 rfl (lv_at hl 0 rfl) ?_
    refine lv_iload_n hx hb dJ7_fill_d0a16_13 rfl (lv_at hl 2 rfl) ?_
    refine lv_lload_n hx hb dJ7_fill_d0a16_14 rfl (lv_at hl 1 rfl) ?_
    obtain ⟨b_4, h⟩ := ift h
    obtain ⟨M_5, e_6, h⟩ := olt h
    refine r_last C hS k0 rfl b_4 e_6 dJ7_fill_d0a16_15 (fun H locs hS => ?_)
    obtain ⟨x3_7, e_8, h⟩ := olt h
    refine lv_iinc (v := x3_7) (lv' := [(3, .int x3_7), (0, .ref (G.1 + a0)), (1, .long x1), (4, .int x4)]) hx hb dJ7_fill_d0a16_16 hl (k := 2) rfl (by rw [e_8]; rfl) (by decide) rfl (fun ls hl => ?_)
    refine lv_goto (tgt := 6) hx hb dJ7_fill_d0a16_19 (by decide) ?_
    obtain rfl := Option.some.inj h
    exact hE _ _ _ hS (lv_sub hl [1, 2, 0, 3] rfl)
set_option maxHeartbeats 4000000 in
set_option maxRecDepth 100000 in
theorem c_J7_fill_d0a16 (l : Launch) (G : Gl) (F : Nat) (a0 : Nat) (x1 : Int64) (M : zM) (k0 : zK a0 = 15) (q : Unit × zM) (h : JArr_fill_L F a0 x1 M = some q) : Met l yJ7_fill_d0a16 (wsM yJ7_fill_d0a16 cJ7_fill_d0a16 5 none) (rmM 0 0) (Pre G M [.ref (G.1 + a0), .long x1]) (PoV G q) 0 0 (gA G) := by
  refine r_met (own := RJ7) rfl (by decide) (Nat.le_of_ble_eq_true rfl) ?_
  intro p e s m below meth c ls C hr hlk hS hl
  have hl : lv_has ls 5 [(0, .ref (G.1 + a0)), (1, .long x1)] := hl
  obtain ⟨hx, hb, -⟩ := id C
  unfold JArr_fill_L at h
  refine lv_iconst (v := 0) hx hb dJ7_fill_d0a16_0 (by decide) ?_
  refine lv_istore_n (lv' := [(3, .int 0), (0, .ref (G.1 + a0)), (1, .long x1)]) hx hb dJ7_fill_d0a16_1 rfl hl (by decide) rfl (fun ls hl => ?_)
  refine lv_aload_n hx hb dJ7_fill_d0a16_2 rfl (lv_at hl 1 rfl) ?_
  refine r_alen C hS (v := Int32.ofNat (zN a0)) k0 ⟨by decide, by decide⟩ rfl (by rfl) dJ7_fill_d0a16_3 ?_
  obtain ⟨x4_1, e_2, h⟩ := olt h
  refine r_nI e_2 ?_
  refine lv_istore (lv' := [(4, .int x4_1), (3, .int 0), (0, .ref (G.1 + a0)), (1, .long x1)]) hx hb dJ7_fill_d0a16_4 hl (by decide) rfl (fun ls hl => ?_)
  obtain ⟨⟨k_11, x3_9, M_10⟩, hq_12, h⟩ := ob h
  try dsimp only at h
  refine loopW (E := (E_JArr_fill_L_6 G p l e s m _ below meth c _ a0 x1 x4_1)) (w_JArr_fill_L_B6 C a0 x1 x4_1 k0 F) F _ _ hq_12 ?_ _ _ _ hS (lv_sub hl [2, 3, 1, 0] rfl)
  by_cases ek_13 : k_11 = 1
  · replace h := ifp ek_13 h
    subst ek_13
    intro H locs ls hS hl
    exact r_vret C hS hr hlk h dJ7_fill_d0a16_22
  · replace h := ifn ek_13 h
    cases h
set_option maxHeartbeats 4000000 in
set_option maxRecDepth 100000 in
theorem c_X6_signs (l : Launch) (G : Gl) (F : Nat) (a0 : Nat) (x1 : Int32) (x2 : Int32) (M : zM) (k0 : zK a0 = 6) (q : Int64 × zM) (h : Spe_signs F a0 x1 x2 M = some q) : Met l yX6_signs (wsM yX6_signs cX6_signs 4 (some .long)) (rmM 0 0) (Pre G M [.ref (G.1 + a0), .int x1, .int x2]) (PoL G q) 0 0 (gA G) := by
  refine r_met (own := RX6) rfl (by decide) (Nat.le_of_ble_eq_true rfl) ?_
  intro p e s m below meth c ls C hr hlk hS hl
  have hl : lv_has ls 4 [(0, .ref (G.1 + a0)), (1, .int x1), (2, .int x2)] := hl
  obtain ⟨hx, hb, -⟩ := id C
  unfold Spe_signs at h
  refine lv_iload_n hx hb dX6_signs_0 rfl (lv_at hl 1 rfl) ?_
  refine lv_iconst (v := 5) hx hb dX6_signs_1 (by decide) ?_
  refine lv_imul hx hb dX6_signs_2 ?_
  refine lv_iload_n hx hb dX6_signs_3 rfl (lv_at hl 2 rfl) ?_
  refine lv_iadd hx hb dX6_signs_4 ?_
  obtain ⟨x3_1, e_2, h⟩ := olt h
  refine r_nI e_2 ?_
  refine lv_istore_n (lv' := [(3, .int x3_1), (0, .ref (G.1 + a0)), (1, .int x1), (2, .int x2)]) hx hb dX6_signs_5 rfl hl (by decide) rfl (fun ls hl => ?_)
  refine lv_iload_n hx hb dX6_signs_6 rfl (lv_at hl 0 rfl) ?_
  refine lv_if_lt (tgt := 28) hx hb dX6_signs_7 (by decide) (fun c_3 => ?_) (fun c_3 => ?_)
  · replace h := ifp c_3 h
    refine lv_lconst (v := 0) hx hb dX6_signs_28 (by decide) ?_
    exact r_lret C hS hr hlk h dX6_signs_29
  · replace h := ifn c_3 h
    refine lv_iload_n hx hb dX6_signs_10 rfl (lv_at hl 0 rfl) ?_
    refine lv_aload_n hx hb dX6_signs_11 rfl (lv_at hl 1 rfl) ?_
    refine r_gR C hS fl_X6_15 rfl k0 (zR_6_0 k0) dX6_signs_12 ?_
    refine r_alen C hS (v := Int32.ofNat (zN (a0 + 1))) (zKr_6_0 k0) ⟨by decide, by decide⟩ rfl (by rfl) dX6_signs_15 ?_
    refine lv_icmp_ge (tgt := 28) hx hb dX6_signs_16 (by decide) (fun c_4 => ?_) (fun c_4 => ?_)
    · replace h := ifp c_4 h
      refine lv_lconst (v := 0) hx hb dX6_signs_28 (by decide) ?_
      exact r_lret C hS hr hlk h dX6_signs_29
    · replace h := ifn c_4 h
      refine lv_aload_n hx hb dX6_signs_19 rfl (lv_at hl 1 rfl) ?_
      refine r_gR C hS fl_X6_15 rfl k0 (zR_6_0 k0) dX6_signs_20 ?_
      refine lv_iload_n hx hb dX6_signs_23 rfl (lv_at hl 0 rfl) ?_
      obtain ⟨b_5, h⟩ := ift h
      refine r_lald C hS (zKr_6_0 k0) rfl b_5 dX6_signs_24 ?_
      refine lv_goto (tgt := 29) hx hb dX6_signs_25 (by decide) ?_
      exact r_lret C hS hr hlk h dX6_signs_29
set_option maxHeartbeats 4000000 in
set_option maxRecDepth 100000 in
theorem c_X3_signIn (l : Launch) (G : Gl) (F : Nat) (x0 : Int64) (x2 : Int32) (M : zM)  (q : Int32 × zM) (h : Lin_signIn F x0 x2 M = some q) : Met l yX3_signIn (wsM yX3_signIn cX3_signIn 3 (some .int)) (rmM 0 0) (Pre G M [.long x0, .int x2]) (PoI G q) 0 0 (gA G) := by
  refine r_met (own := RX3) rfl (by decide) (Nat.le_of_ble_eq_true rfl) ?_
  intro p e s m below meth c ls C hr hlk hS hl
  have hl : lv_has ls 3 [(0, .long x0), (2, .int x2)] := hl
  obtain ⟨hx, hb, -⟩ := id C
  unfold Lin_signIn at h
  refine lv_lload_n hx hb dX3_signIn_0 rfl (lv_at hl 0 rfl) ?_
  refine lv_iload_n hx hb dX3_signIn_1 rfl (lv_at hl 1 rfl) ?_
  refine lv_lushr (v := ur x0 x2) hx hb dX3_signIn_2 rfl ?_
  refine lv_l2i (v := (ur x0 x2).toInt32) hx hb dX3_signIn_3 rfl ?_
  refine lv_bipush (v := 31) hx hb dX3_signIn_4 (by decide) ?_
  refine lv_iand hx hb dX3_signIn_6 ?_
  exact r_iret C hS hr hlk h dX3_signIn_7
def E_Dis_from_15 (G : Gl) (p : Program) (l : Launch) (e : Env) (s : State) (m : MethodId) (args : Array Value) (below : List Frame) (meth : Method) (c : Code) (Q : State → Prop) (a1 : Nat) (x2 : Int32) : Nat → (Int32 × zM) → Prop := fun k (x3, M) => match k with
  | 0 => ∀ (H : Heap) (locs : List Loc) (ls : Array Slot), St G M s H locs → lv_has ls 8 [(0, .ref (G.1 + 59)), (1, .ref (G.1 + a1)), (2, .int x2), (3, .int x3)] → W p l e (rmM 1 24) s m args below meth c H locs 0 0 Q (F0 m 15 ls [])
  | 1 => ∀ (H : Heap) (locs : List Loc) (ls : Array Slot), St G M s H locs → lv_has ls 8 [] → W p l e (rmM 1 24) s m args below meth c H locs 0 0 Q (F0 m 51 ls [])
  | 2 => ∀ (H : Heap) (locs : List Loc) (ls : Array Slot), St G M s H locs → lv_has ls 8 [] → W p l e (rmM 1 24) s m args below meth c H locs 0 0 Q (F0 m 90 ls [])
  | _ => True
def E_Dis_from_32 (G : Gl) (p : Program) (l : Launch) (e : Env) (s : State) (m : MethodId) (args : Array Value) (below : List Frame) (meth : Method) (c : Code) (Q : State → Prop) (a1 : Nat) (x2 : Int32) (x3 : Int32) (x4 : Int64) : Nat → (Int32 × zM) → Prop := fun k (x6, M) => match k with
  | 0 => ∀ (H : Heap) (locs : List Loc) (ls : Array Slot), St G M s H locs → lv_has ls 8 [(0, .ref (G.1 + 59)), (1, .ref (G.1 + a1)), (2, .int x2), (3, .int x3), (4, .long x4), (6, .int x6)] → W p l e (rmM 1 24) s m args below meth c H locs 0 0 Q (F0 m 32 ls [])
  | 1 => ∀ (H : Heap) (locs : List Loc) (ls : Array Slot), St G M s H locs → lv_has ls 8 [] → W p l e (rmM 1 24) s m args below meth c H locs 0 0 Q (F0 m 51 ls [])
  | 2 => ∀ (H : Heap) (locs : List Loc) (ls : Array Slot), St G M s H locs → lv_has ls 8 [(0, .ref (G.1 + 59)), (1, .ref (G.1 + a1)), (2, .int x2), (3, .int x3)] → W p l e (rmM 1 24) s m args below meth c H locs 0 0 Q (F0 m 84 ls [])
  | _ => True
set_option maxHeartbeats 4000000 in
set_option maxRecDepth 100000 in
theorem w_Dis_from_B32 {G : Gl} {p : Program} {l : Launch} {e : Env} {s : State} {m : MethodId} {args : Array Value} {below : List Frame} {meth : Method} {c : Code} {Q : State → Prop} (C : Cx G cX1_from 8 RX1 p s m args c) (a1 : Nat) (x2 : Int32) (x3 : Int32) (x4 : Int64) (k1 : zK a1 = 6) (F : Nat) : ∀ (σ : (Int32 × zM)) (q : Nat × (Int32 × zM)), Dis_from_B32 F a1 x2 x3 x4 σ = some q → (E_Dis_from_32 G p l e s m args below meth c Q a1 x2 x3 x4) q.1 q.2 → (E_Dis_from_32 G p l e s m args below meth c Q a1 x2 x3 x4) 0 σ := by
  intro (x6, M) q h hE H locs ls hS hl
  obtain ⟨hx, hb, -⟩ := id C
  unfold Dis_from_B32 at h
  try dsimp only at h
  refine lv_iload hx hb dX1_from_32 (lv_at hl 5 rfl) ?_
  refine lv_if_lt (tgt := 84) hx hb dX1_from_34 (by decide) (fun c_10 => ?_) (fun c_10 => ?_)
  · replace h := ifp c_10 h
    obtain rfl := Option.some.inj h
    exact hE _ _ _ hS (lv_sub hl [0, 1, 2, 3] rfl)
  · replace h := ifn c_10 h
    refine lv_lload hx hb dX1_from_37 (lv_at hl 4 rfl) ?_
    refine lv_iload hx hb dX1_from_39 (lv_at hl 5 rfl) ?_
    obtain ⟨⟨r_11, M_12⟩, hq_13, h⟩ := ob h
    try dsimp only at h
    refine r_thenI hS (r_runS C hS hl.1 cs_X1_31 (c_X3_signIn l G F x4 x6 M  _ hq_13) ⟨by decide, by decide⟩ rfl rfl (Nat.le_of_ble_eq_true rfl) ⟨Nat.zero_le _, Nat.zero_le _⟩ dX1_from_41) (fun H locs hS => ?_)
    refine lv_istore (lv' := [(7, .int r_11), (0, .ref (G.1 + 59)), (1, .ref (G.1 + a1)), (2, .int x2), (3, .int x3), (4, .long x4), (6, .int x6)]) hx hb dX1_from_44 hl (by decide) rfl (fun ls hl => ?_)
    refine lv_iload hx hb dX1_from_46 (lv_at hl 0 rfl) ?_
    refine lv_if_ne (tgt := 52) hx hb dX1_from_48 (by decide) (fun c_14 => ?_) (fun c_14 => ?_)
    · replace h := ifn c_14 h
      refine lv_aload_n hx hb dX1_from_52 rfl (lv_at hl 1 rfl) ?_
      refine r_gR C hS fl_X1_9 rfl rfl rfl dX1_from_53 ?_
      refine lv_iload hx hb dX1_from_56 (lv_at hl 0 rfl) ?_
      refine lv_dup2_11 hx hb dX1_from_58 rfl rfl ?_
      obtain ⟨b_15, h⟩ := ift h
      refine r_lald C hS rfl rfl b_15 dX1_from_59 ?_
      refine lv_lconst (v := 1) hx hb dX1_from_60 (by decide) ?_
      refine lv_aload_n hx hb dX1_from_61 rfl (lv_at hl 1 rfl) ?_
      refine r_gI C hS fl_X1_15 rfl rfl dX1_from_62 ?_
      refine lv_lshl (v := sl 1 (M_12.1 59 1)) hx hb dX1_from_65 rfl ?_
      refine lv_lor hx hb dX1_from_66 ?_
      obtain ⟨M_16, e_17, h⟩ := olt h
      refine r_last C hS rfl rfl b_15 e_17 dX1_from_67 (fun H locs hS => ?_)
      refine lv_aload_n hx hb dX1_from_68 rfl (lv_at hl 1 rfl) ?_
      refine lv_dup hx hb dX1_from_69 rfl ?_
      refine r_gI C hS fl_X1_15 rfl rfl dX1_from_70 ?_
      refine lv_iconst (v := 1) hx hb dX1_from_73 (by decide) ?_
      refine lv_iadd hx hb dX1_from_74 ?_
      obtain ⟨M_18, e_19, h⟩ := olt h
      refine r_pI C hS fp_X1_15 rfl rfl e_19 dX1_from_75 (fun H locs hS => ?_)
      obtain ⟨x6_20, e_21, h⟩ := olt h
      refine lv_iinc (v := x6_20) (lv' := [(6, .int x6_20), (7, .int r_11), (0, .ref (G.1 + 59)), (1, .ref (G.1 + a1)), (2, .int x2), (3, .int x3), (4, .long x4)]) hx hb dX1_from_78 hl (k := 6) rfl (by rw [e_21]; rfl) (by decide) rfl (fun ls hl => ?_)
      refine lv_goto (tgt := 32) hx hb dX1_from_81 (by decide) ?_
      obtain rfl := Option.some.inj h
      exact hE _ _ _ hS (lv_sub hl [2, 3, 4, 5, 6, 0] rfl)
    · replace h := ifp c_14 h
      obtain rfl := Option.some.inj h
      exact hE _ _ _ hS (lv_sub hl [] rfl)
set_option maxHeartbeats 4000000 in
set_option maxRecDepth 100000 in
theorem w_Dis_from_B15 {G : Gl} {p : Program} {l : Launch} {e : Env} {s : State} {m : MethodId} {args : Array Value} {below : List Frame} {meth : Method} {c : Code} {Q : State → Prop} (C : Cx G cX1_from 8 RX1 p s m args c) (a1 : Nat) (x2 : Int32) (k1 : zK a1 = 6) (F : Nat) : ∀ (σ : (Int32 × zM)) (q : Nat × (Int32 × zM)), Dis_from_B15 F a1 x2 σ = some q → (E_Dis_from_15 G p l e s m args below meth c Q a1 x2) q.1 q.2 → (E_Dis_from_15 G p l e s m args below meth c Q a1 x2) 0 σ := by
  intro (x3, M) q h hE H locs ls hS hl
  obtain ⟨hx, hb, -⟩ := id C
  unfold Dis_from_B15 at h
  try dsimp only at h
  refine lv_iload_n hx hb dX1_from_15 rfl (lv_at hl 3 rfl) ?_
  refine lv_iconst (v := 5) hx hb dX1_from_16 (by decide) ?_
  refine lv_icmp_ge (tgt := 90) hx hb dX1_from_17 (by decide) (fun c_6 => ?_) (fun c_6 => ?_)
  · replace h := ifp c_6 h
    obtain rfl := Option.some.inj h
    exact hE _ _ _ hS (lv_sub hl [] rfl)
  · replace h := ifn c_6 h
    refine lv_aload_n hx hb dX1_from_20 rfl (lv_at hl 1 rfl) ?_
    refine lv_iload_n hx hb dX1_from_21 rfl (lv_at hl 2 rfl) ?_
    refine lv_iload_n hx hb dX1_from_22 rfl (lv_at hl 3 rfl) ?_
    obtain ⟨⟨r_7, M_8⟩, hq_9, h⟩ := ob h
    try dsimp only at h
    refine r_thenL hS (r_runV C hS hl.1 cv_X1_25 k1 (c_X6_signs l G F a1 x2 x3 M k1 _ hq_9) ⟨by decide, by decide⟩ rfl rfl (Nat.le_of_ble_eq_true rfl) ⟨Nat.zero_le _, Nat.zero_le _⟩ dX1_from_23) (fun H locs hS => ?_)
    refine lv_lstore (lv' := [(4, .long r_7), (0, .ref (G.1 + 59)), (1, .ref (G.1 + a1)), (2, .int x2), (3, .int x3)]) hx hb dX1_from_26 hl (by decide) rfl (fun ls hl => ?_)
    refine lv_bipush (v := 55) hx hb dX1_from_28 (by decide) ?_
    refine lv_istore (lv' := [(6, .int 55), (4, .long r_7), (0, .ref (G.1 + 59)), (1, .ref (G.1 + a1)), (2, .int x2), (3, .int x3)]) hx hb dX1_from_30 hl (by decide) rfl (fun ls hl => ?_)
    obtain ⟨⟨k_24, x6_22, M_23⟩, hq_25, h⟩ := ob h
    try dsimp only at h
    refine loopW (E := (E_Dis_from_32 G p l e s m _ below meth c _ a1 x2 x3 r_7)) (w_Dis_from_B32 C a1 x2 x3 r_7 k1 F) F _ _ hq_25 ?_ _ _ _ hS (lv_sub hl [2, 3, 4, 5, 1, 0] rfl)
    by_cases ek_29 : k_24 = 1
    · replace h := ifp ek_29 h
      subst ek_29
      intro H locs ls hS hl
      obtain rfl := Option.some.inj h
      exact hE _ _ _ hS (lv_sub hl [] rfl)
    · replace h := ifn ek_29 h
      by_cases ek_28 : k_24 = 2
      · replace h := ifp ek_28 h
        subst ek_28
        intro H locs ls hS hl
        obtain ⟨x3_26, e_27, h⟩ := olt h
        refine lv_iinc (v := x3_26) (lv' := [(3, .int x3_26), (0, .ref (G.1 + 59)), (1, .ref (G.1 + a1)), (2, .int x2)]) hx hb dX1_from_84 hl (k := 3) rfl (by rw [e_27]; rfl) (by decide) rfl (fun ls hl => ?_)
        refine lv_goto (tgt := 15) hx hb dX1_from_87 (by decide) ?_
        obtain rfl := Option.some.inj h
        exact hE _ _ _ hS (lv_sub hl [1, 2, 3, 0] rfl)
      · replace h := ifn ek_28 h
        cases h
set_option maxHeartbeats 4000000 in
set_option maxRecDepth 100000 in
theorem c_X1_from (l : Launch) (G : Gl) (F : Nat) (a1 : Nat) (x2 : Int32) (M : zM) (k1 : zK a1 = 6) (q : Unit × zM) (h : Dis_from F a1 x2 M = some q) : Met l yX1_from (wsM yX1_from cX1_from 8 none) (rmM 1 24) (Pre G M [.ref (G.1 + 59), .ref (G.1 + a1), .int x2]) (PoV G q) 0 0 (gA G) := by
  refine r_met (own := RX1) rfl (by decide) (Nat.le_of_ble_eq_true rfl) ?_
  intro p e s m below meth c ls C hr hlk hS hl
  have hl : lv_has ls 8 [(0, .ref (G.1 + 59)), (1, .ref (G.1 + a1)), (2, .int x2)] := hl
  obtain ⟨hx, hb, -⟩ := id C
  unfold Dis_from at h
  refine lv_aload_n hx hb dX1_from_0 rfl (lv_at hl 0 rfl) ?_
  refine r_gR C hS fl_X1_9 rfl rfl rfl dX1_from_1 ?_
  refine lv_lconst (v := 0) hx hb dX1_from_4 (by decide) ?_
  obtain ⟨⟨_r_1, M_2⟩, hq_3, h⟩ := ob h
  try dsimp only at h
  refine r_thenV hS (r_runS C hS hl.1 cs_X1_19 (c_J7_fill_d0a16 l G F 60 0 M rfl _ hq_3) ⟨by decide, by decide⟩ rfl rfl (Nat.le_of_ble_eq_true rfl) ⟨Nat.zero_le _, Nat.zero_le _⟩ dX1_from_5) (fun H locs hS => ?_)
  refine lv_aload_n hx hb dX1_from_8 rfl (lv_at hl 0 rfl) ?_
  refine lv_iconst (v := 0) hx hb dX1_from_9 (by decide) ?_
  obtain ⟨M_4, e_5, h⟩ := olt h
  refine r_pI C hS fp_X1_15 rfl rfl e_5 dX1_from_10 (fun H locs hS => ?_)
  refine lv_iconst (v := 0) hx hb dX1_from_13 (by decide) ?_
  refine lv_istore_n (lv' := [(3, .int 0), (0, .ref (G.1 + 59)), (1, .ref (G.1 + a1)), (2, .int x2)]) hx hb dX1_from_14 rfl hl (by decide) rfl (fun ls hl => ?_)
  obtain ⟨⟨k_32, x3_30, M_31⟩, hq_33, h⟩ := ob h
  try dsimp only at h
  refine loopW (E := (E_Dis_from_15 G p l e s m _ below meth c _ a1 x2)) (w_Dis_from_B15 C a1 x2 k1 F) F _ _ hq_33 ?_ _ _ _ hS (lv_sub hl [1, 2, 3, 0] rfl)
  by_cases ek_35 : k_32 = 1
  · replace h := ifp ek_35 h
    subst ek_35
    intro H locs ls hS hl
    exact r_vret C hS hr hlk h dX1_from_51
  · replace h := ifn ek_35 h
    by_cases ek_34 : k_32 = 2
    · replace h := ifp ek_34 h
      subst ek_34
      intro H locs ls hS hl
      exact r_vret C hS hr hlk h dX1_from_90
    · replace h := ifn ek_34 h
      cases h
def E_Dis_to_37 (G : Gl) (p : Program) (l : Launch) (e : Env) (s : State) (m : MethodId) (args : Array Value) (below : List Frame) (meth : Method) (c : Code) (Q : State → Prop) (a1 : Nat) (x2 : Int32) (x7 : Int64) : Nat → (Int64 × Int64 × Int32 × Int32 × zM) → Prop := fun k (x3, x5, x9, x10, M) => match k with
  | 0 => ∀ (H : Heap) (locs : List Loc) (ls : Array Slot), St G M s H locs → lv_has ls 23 [(0, .ref (G.1 + 59)), (1, .ref (G.1 + a1)), (2, .int x2), (3, .long x3), (5, .long x5), (7, .long x7), (9, .int x9), (10, .int x10)] → W p l e (rmM 1 23) s m args below meth c H locs 0 0 Q (F0 m 37 ls [])
  | 1 => ∀ (H : Heap) (locs : List Loc) (ls : Array Slot), St G M s H locs → lv_has ls 23 [(9, .int x9)] → W p l e (rmM 1 23) s m args below meth c H locs 0 0 Q (F0 m 75 ls [])
  | 2 => ∀ (H : Heap) (locs : List Loc) (ls : Array Slot), St G M s H locs → lv_has ls 23 [(9, .int x9)] → W p l e (rmM 1 23) s m args below meth c H locs 0 0 Q (F0 m 203 ls [])
  | _ => True
def E_Dis_to_56 (G : Gl) (p : Program) (l : Launch) (e : Env) (s : State) (m : MethodId) (args : Array Value) (below : List Frame) (meth : Method) (c : Code) (Q : State → Prop) (a1 : Nat) (x2 : Int32) (x7 : Int64) (x10 : Int32) (x11 : Int64) : Nat → (Int64 × Int64 × Int32 × Int32 × zM) → Prop := fun k (x3, x5, x9, x13, M) => match k with
  | 0 => ∀ (H : Heap) (locs : List Loc) (ls : Array Slot), St G M s H locs → lv_has ls 23 [(0, .ref (G.1 + 59)), (1, .ref (G.1 + a1)), (2, .int x2), (3, .long x3), (5, .long x5), (7, .long x7), (9, .int x9), (10, .int x10), (11, .long x11), (13, .int x13)] → W p l e (rmM 1 23) s m args below meth c H locs 0 0 Q (F0 m 56 ls [])
  | 1 => ∀ (H : Heap) (locs : List Loc) (ls : Array Slot), St G M s H locs → lv_has ls 23 [(9, .int x9)] → W p l e (rmM 1 23) s m args below meth c H locs 0 0 Q (F0 m 75 ls [])
  | 2 => ∀ (H : Heap) (locs : List Loc) (ls : Array Slot), St G M s H locs → lv_has ls 23 [(0, .ref (G.1 + 59)), (1, .ref (G.1 + a1)), (2, .int x2), (3, .long x3), (5, .long x5), (7, .long x7), (9, .int x9), (10, .int x10)] → W p l e (rmM 1 23) s m args below meth c H locs 0 0 Q (F0 m 197 ls [])
  | _ => True
set_option maxHeartbeats 4000000 in
set_option maxRecDepth 100000 in
theorem w_Dis_to_J155 {G : Gl} {p : Program} {l : Launch} {e : Env} {s : State} {m : MethodId} {args : Array Value} {below : List Frame} {meth : Method} {c : Code} {Q : State → Prop} (C : Cx G cX1_to 23 RX1 p s m args c) (a1 : Nat) (x2 : Int32) (x7 : Int64) (x10 : Int32) (x11 : Int64) (k1 : zK a1 = 6) (F : Nat) (x5 : Int64) (x9 : Int32) (x13 : Int32) (x15 : Int64) (x19 : Int64) (x21 : Int64) (M : zM)  (q : Nat × (Int64 × Int64 × Int32 × Int32 × zM)) (h : Dis_to_J155 F a1 x2 x5 x7 x9 x10 x11 x13 x15 x19 x21 M = some q) (hE : (E_Dis_to_56 G p l e s m args below meth c Q a1 x2 x7 x10 x11) q.1 q.2) (H : Heap) (locs : List Loc) (ls : Array Slot) (hS : St G M s H locs) (hl : lv_has ls 23 [(0, .ref (G.1 + 59)), (1, .ref (G.1 + a1)), (2, .int x2), (5, .long x5), (7, .long x7), (9, .int x9), (10, .int x10), (11, .long x11), (13, .int x13), (15, .long x15), (19, .long x19), (21, .long x21)]) : W p l e (rmM 1 23) s m args below meth c H locs 0 0 Q (F0 m 155 ls []) := by
  obtain ⟨hx, hb, -⟩ := id C
  unfold Dis_to_J155 at h
  refine lv_lload hx hb dX1_to_155 (lv_at hl 10 rfl) ?_
  refine lv_iconst (v := 1) hx hb dX1_to_157 (by decide) ?_
  refine lv_lshl (v := sl x19 1) hx hb dX1_to_158 rfl ?_
  refine lv_lconst (v := 1) hx hb dX1_to_159 (by decide) ?_
  refine lv_lor hx hb dX1_to_160 ?_
  obtain ⟨x19_25, e_26, h⟩ := olt h
  refine r_nL e_26 ?_
  refine lv_lstore (lv' := [(19, .long x19_25), (0, .ref (G.1 + 59)), (1, .ref (G.1 + a1)), (2, .int x2), (5, .long x5), (7, .long x7), (9, .int x9), (10, .int x10), (11, .long x11), (13, .int x13), (15, .long x15), (21, .long x21)]) hx hb dX1_to_161 hl (by decide) rfl (fun ls hl => ?_)
  refine lv_lload hx hb dX1_to_163 (lv_at hl 11 rfl) ?_
  refine lv_iconst (v := 1) hx hb dX1_to_165 (by decide) ?_
  refine lv_lshl (v := sl x21 1) hx hb dX1_to_166 rfl ?_
  refine lv_lload hx hb dX1_to_167 (lv_at hl 10 rfl) ?_
  refine lv_lload hx hb dX1_to_169 (lv_at hl 4 rfl) ?_
  refine lv_lor hx hb dX1_to_171 ?_
  refine lv_lload hx hb dX1_to_172 (lv_at hl 0 rfl) ?_
  refine lv_lor hx hb dX1_to_174 ?_
  refine lv_ldc2 hx hb C.2.2.2.1 (C.2.2.2.2.1 _ tw_819) dX1_to_175 ?_
  refine lv_lxor hx hb dX1_to_178 ?_
  refine lv_lor hx hb dX1_to_179 ?_
  obtain ⟨x3_27, e_28, h⟩ := olt h
  refine r_nL e_28 ?_
  refine lv_lstore_n (lv' := [(3, .long x3_27), (19, .long x19_25), (0, .ref (G.1 + 59)), (1, .ref (G.1 + a1)), (2, .int x2), (5, .long x5), (7, .long x7), (9, .int x9), (10, .int x10), (11, .long x11), (13, .int x13), (15, .long x15), (21, .long x21)]) hx hb dX1_to_180 rfl hl (by decide) rfl (fun ls hl => ?_)
  refine lv_lload hx hb dX1_to_181 (lv_at hl 1 rfl) ?_
  refine lv_lload hx hb dX1_to_183 (lv_at hl 11 rfl) ?_
  refine lv_lload hx hb dX1_to_185 (lv_at hl 5 rfl) ?_
  refine lv_lor hx hb dX1_to_187 ?_
  refine lv_land hx hb dX1_to_188 ?_
  obtain ⟨x5_29, e_30, h⟩ := olt h
  refine r_nL e_30 ?_
  refine lv_lstore (lv' := [(5, .long x5_29), (3, .long x3_27), (19, .long x19_25), (0, .ref (G.1 + 59)), (1, .ref (G.1 + a1)), (2, .int x2), (7, .long x7), (9, .int x9), (10, .int x10), (11, .long x11), (13, .int x13), (15, .long x15), (21, .long x21)]) hx hb dX1_to_189 hl (by decide) rfl (fun ls hl => ?_)
  obtain ⟨x13_31, e_32, h⟩ := olt h
  refine lv_iinc (v := x13_31) (lv' := [(13, .int x13_31), (5, .long x5_29), (3, .long x3_27), (19, .long x19_25), (0, .ref (G.1 + 59)), (1, .ref (G.1 + a1)), (2, .int x2), (7, .long x7), (9, .int x9), (10, .int x10), (11, .long x11), (15, .long x15), (21, .long x21)]) hx hb dX1_to_191 hl (k := 10) rfl (by rw [e_32]; rfl) (by decide) rfl (fun ls hl => ?_)
  refine lv_goto (tgt := 56) hx hb dX1_to_194 (by decide) ?_
  obtain rfl := Option.some.inj h
  exact hE _ _ _ hS (lv_sub hl [4, 5, 6, 2, 1, 7, 8, 9, 10, 0] rfl)
set_option maxHeartbeats 4000000 in
set_option maxRecDepth 100000 in
theorem w_Dis_to_J136 {G : Gl} {p : Program} {l : Launch} {e : Env} {s : State} {m : MethodId} {args : Array Value} {below : List Frame} {meth : Method} {c : Code} {Q : State → Prop} (C : Cx G cX1_to 23 RX1 p s m args c) (a1 : Nat) (x2 : Int32) (x7 : Int64) (x10 : Int32) (x11 : Int64) (k1 : zK a1 = 6) (F : Nat) (x5 : Int64) (x9 : Int32) (x13 : Int32) (x15 : Int64) (x19 : Int64) (x21 : Int64) (M : zM)  (q : Nat × (Int64 × Int64 × Int32 × Int32 × zM)) (h : Dis_to_J136 F a1 x2 x5 x7 x9 x10 x11 x13 x15 x19 x21 M = some q) (hE : (E_Dis_to_56 G p l e s m args below meth c Q a1 x2 x7 x10 x11) q.1 q.2) (H : Heap) (locs : List Loc) (ls : Array Slot) (hS : St G M s H locs) (hl : lv_has ls 23 [(0, .ref (G.1 + 59)), (1, .ref (G.1 + a1)), (2, .int x2), (5, .long x5), (7, .long x7), (9, .int x9), (10, .int x10), (11, .long x11), (13, .int x13), (15, .long x15), (19, .long x19), (21, .long x21)]) : W p l e (rmM 1 23) s m args below meth c H locs 0 0 Q (F0 m 136 ls []) := by
  obtain ⟨hx, hb, -⟩ := id C
  unfold Dis_to_J136 at h
  obtain ⟨x9_23, e_24, h⟩ := olt h
  refine lv_iinc (v := x9_23) (lv' := [(9, .int x9_23), (0, .ref (G.1 + 59)), (1, .ref (G.1 + a1)), (2, .int x2), (5, .long x5), (7, .long x7), (10, .int x10), (11, .long x11), (13, .int x13), (15, .long x15), (19, .long x19), (21, .long x21)]) hx hb dX1_to_136 hl (k := 5) rfl (by rw [e_24]; rfl) (by decide) rfl (fun ls hl => ?_)
  refine lv_goto (tgt := 155) hx hb dX1_to_139 (by decide) ?_
  exact w_Dis_to_J155 C a1 x2 x7 x10 x11 k1 F x5 x9_23 x13 x15 x19 x21 M  q h hE _ _ _ hS (lv_sub hl [1, 2, 3, 4, 5, 0, 6, 7, 8, 9, 10, 11] rfl)
set_option maxHeartbeats 4000000 in
set_option maxRecDepth 100000 in
theorem w_Dis_to_B56 {G : Gl} {p : Program} {l : Launch} {e : Env} {s : State} {m : MethodId} {args : Array Value} {below : List Frame} {meth : Method} {c : Code} {Q : State → Prop} (C : Cx G cX1_to 23 RX1 p s m args c) (a1 : Nat) (x2 : Int32) (x7 : Int64) (x10 : Int32) (x11 : Int64) (k1 : zK a1 = 6) (F : Nat) : ∀ (σ : (Int64 × Int64 × Int32 × Int32 × zM)) (q : Nat × (Int64 × Int64 × Int32 × Int32 × zM)), Dis_to_B56 F a1 x2 x7 x10 x11 σ = some q → (E_Dis_to_56 G p l e s m args below meth c Q a1 x2 x7 x10 x11) q.1 q.2 → (E_Dis_to_56 G p l e s m args below meth c Q a1 x2 x7 x10 x11) 0 σ := by
  intro (x3, x5, x9, x13, M) q h hE H locs ls hS hl
  obtain ⟨hx, hb, -⟩ := id C
  unfold Dis_to_B56 at h
  try dsimp only at h
  refine lv_iload hx hb dX1_to_56 (lv_at hl 9 rfl) ?_
  refine lv_if_lt (tgt := 197) hx hb dX1_to_58 (by decide) (fun c_8 => ?_) (fun c_8 => ?_)
  · replace h := ifp c_8 h
    obtain rfl := Option.some.inj h
    exact hE _ _ _ hS (lv_sub hl [0, 1, 2, 3, 4, 5, 6, 7] rfl)
  · replace h := ifn c_8 h
    refine lv_lload hx hb dX1_to_61 (lv_at hl 8 rfl) ?_
    refine lv_iload hx hb dX1_to_63 (lv_at hl 9 rfl) ?_
    obtain ⟨⟨r_9, M_10⟩, hq_11, h⟩ := ob h
    try dsimp only at h
    refine r_thenI hS (r_runS C hS hl.1 cs_X1_31 (c_X3_signIn l G F x11 x13 M  _ hq_11) ⟨by decide, by decide⟩ rfl rfl (Nat.le_of_ble_eq_true rfl) ⟨Nat.zero_le _, Nat.zero_le _⟩ dX1_to_65) (fun H locs hS => ?_)
    refine lv_istore (lv' := [(14, .int r_9), (0, .ref (G.1 + 59)), (1, .ref (G.1 + a1)), (2, .int x2), (3, .long x3), (5, .long x5), (7, .long x7), (9, .int x9), (10, .int x10), (11, .long x11), (13, .int x13)]) hx hb dX1_to_68 hl (by decide) rfl (fun ls hl => ?_)
    refine lv_iload hx hb dX1_to_70 (lv_at hl 0 rfl) ?_
    refine lv_if_ne (tgt := 78) hx hb dX1_to_72 (by decide) (fun c_12 => ?_) (fun c_12 => ?_)
    · replace h := ifn c_12 h
      refine lv_aload_n hx hb dX1_to_78 rfl (lv_at hl 1 rfl) ?_
      refine r_gR C hS fl_X1_9 rfl rfl rfl dX1_to_79 ?_
      refine lv_iload hx hb dX1_to_82 (lv_at hl 0 rfl) ?_
      obtain ⟨b_13, h⟩ := ift h
      refine r_lald C hS rfl rfl b_13 dX1_to_84 ?_
      obtain ⟨x15_14, e_15, h⟩ := olt h
      refine r_nL e_15 ?_
      refine lv_lstore (lv' := [(15, .long x15_14), (14, .int r_9), (0, .ref (G.1 + 59)), (1, .ref (G.1 + a1)), (2, .int x2), (3, .long x3), (5, .long x5), (7, .long x7), (9, .int x9), (10, .int x10), (11, .long x11), (13, .int x13)]) hx hb dX1_to_85 hl (by decide) rfl (fun ls hl => ?_)
      refine lv_lload hx hb dX1_to_87 (lv_at hl 0 rfl) ?_
      refine lv_lload_n hx hb dX1_to_89 rfl (lv_at hl 5 rfl) ?_
      refine lv_land hx hb dX1_to_90 ?_
      refine lv_lload_n hx hb dX1_to_91 rfl (lv_at hl 5 rfl) ?_
      refine lv_ladd hx hb dX1_to_92 ?_
      refine lv_lload_n hx hb dX1_to_93 rfl (lv_at hl 5 rfl) ?_
      refine lv_lxor hx hb dX1_to_94 ?_
      refine lv_lload hx hb dX1_to_95 (lv_at hl 0 rfl) ?_
      refine lv_lor hx hb dX1_to_97 ?_
      obtain ⟨x17_16, e_17, h⟩ := olt h
      refine r_nL e_17 ?_
      refine lv_lstore (lv' := [(17, .long x17_16), (15, .long x15_14), (14, .int r_9), (0, .ref (G.1 + 59)), (1, .ref (G.1 + a1)), (2, .int x2), (3, .long x3), (5, .long x5), (7, .long x7), (9, .int x9), (10, .int x10), (11, .long x11), (13, .int x13)]) hx hb dX1_to_98 hl (by decide) rfl (fun ls hl => ?_)
      refine lv_lload hx hb dX1_to_100 (lv_at hl 7 rfl) ?_
      refine lv_lload hx hb dX1_to_102 (lv_at hl 0 rfl) ?_
      refine lv_lload_n hx hb dX1_to_104 rfl (lv_at hl 6 rfl) ?_
      refine lv_lor hx hb dX1_to_105 ?_
      refine lv_ldc2 hx hb C.2.2.2.1 (C.2.2.2.2.1 _ tw_819) dX1_to_106 ?_
      refine lv_lxor hx hb dX1_to_109 ?_
      refine lv_lor hx hb dX1_to_110 ?_
      obtain ⟨x19_18, e_19, h⟩ := olt h
      refine r_nL e_19 ?_
      refine lv_lstore (lv' := [(19, .long x19_18), (17, .long x17_16), (15, .long x15_14), (14, .int r_9), (0, .ref (G.1 + 59)), (1, .ref (G.1 + a1)), (2, .int x2), (3, .long x3), (5, .long x5), (7, .long x7), (9, .int x9), (10, .int x10), (11, .long x11), (13, .int x13)]) hx hb dX1_to_111 hl (by decide) rfl (fun ls hl => ?_)
      refine lv_lload_n hx hb dX1_to_113 rfl (lv_at hl 7 rfl) ?_
      refine lv_lload hx hb dX1_to_114 (lv_at hl 1 rfl) ?_
      refine lv_land hx hb dX1_to_116 ?_
      obtain ⟨x21_20, e_21, h⟩ := olt h
      refine r_nL e_21 ?_
      refine lv_lstore (lv' := [(21, .long x21_20), (19, .long x19_18), (17, .long x17_16), (15, .long x15_14), (14, .int r_9), (0, .ref (G.1 + 59)), (1, .ref (G.1 + a1)), (2, .int x2), (3, .long x3), (5, .long x5), (7, .long x7), (9, .int x9), (10, .int x10), (11, .long x11), (13, .int x13)]) hx hb dX1_to_117 hl (by decide) rfl (fun ls hl => ?_)
      refine lv_aload_n hx hb dX1_to_119 rfl (lv_at hl 5 rfl) ?_
      refine r_gI C hS fl_X1_15 rfl rfl dX1_to_120 ?_
      refine lv_if_eq (tgt := 136) hx hb dX1_to_123 (by decide) (fun c_22 => ?_) (fun c_22 => ?_)
      · replace h := ifp c_22 h
        exact w_Dis_to_J136 C a1 x2 x7 x10 x11 k1 F x5 x9 x13 x15_14 x19_18 x21_20 M_10  q h hE _ _ _ hS (lv_sub hl [5, 6, 7, 9, 10, 11, 12, 13, 14, 3, 1, 0] rfl)
      · replace h := ifn c_22 h
        refine lv_lload hx hb dX1_to_126 (lv_at hl 1 rfl) ?_
        refine lv_lload hx hb dX1_to_128 (lv_at hl 10 rfl) ?_
        refine lv_land hx hb dX1_to_130 ?_
        refine lv_lconst (v := 0) hx hb dX1_to_131 (by decide) ?_
        refine W.lcmp hx hb dX1_to_132 ?_
        refine lv_if_eq (tgt := 142) hx hb dX1_to_133 (by decide) (fun c_33 => ?_) (fun c_33 => ?_)
        · replace h := ifp c_33 h
          refine lv_lload hx hb dX1_to_142 (lv_at hl 0 rfl) ?_
          refine lv_lload hx hb dX1_to_144 (lv_at hl 10 rfl) ?_
          refine lv_land hx hb dX1_to_146 ?_
          refine lv_lconst (v := 0) hx hb dX1_to_147 (by decide) ?_
          refine W.lcmp hx hb dX1_to_148 ?_
          refine lv_if_eq (tgt := 155) hx hb dX1_to_149 (by decide) (fun c_34 => ?_) (fun c_34 => ?_)
          · replace h := ifp c_34 h
            exact w_Dis_to_J155 C a1 x2 x7 x10 x11 k1 F x5 x9 x13 x15_14 x19_18 x21_20 M_10  q h hE _ _ _ hS (lv_sub hl [5, 6, 7, 9, 10, 11, 12, 13, 14, 3, 1, 0] rfl)
          · replace h := ifn c_34 h
            obtain ⟨x9_35, e_36, h⟩ := olt h
            refine lv_iinc (v := x9_35) (lv' := [(9, .int x9_35), (21, .long x21_20), (19, .long x19_18), (17, .long x17_16), (15, .long x15_14), (14, .int r_9), (0, .ref (G.1 + 59)), (1, .ref (G.1 + a1)), (2, .int x2), (3, .long x3), (5, .long x5), (7, .long x7), (10, .int x10), (11, .long x11), (13, .int x13)]) hx hb dX1_to_152 hl (k := 11) rfl (by rw [e_36]; rfl) (by decide) rfl (fun ls hl => ?_)
            exact w_Dis_to_J155 C a1 x2 x7 x10 x11 k1 F x5 x9_35 x13 x15_14 x19_18 x21_20 M_10  q h hE _ _ _ hS (lv_sub hl [6, 7, 8, 10, 11, 0, 12, 13, 14, 4, 2, 1] rfl)
        · replace h := ifn c_33 h
          exact w_Dis_to_J136 C a1 x2 x7 x10 x11 k1 F x5 x9 x13 x15_14 x19_18 x21_20 M_10  q h hE _ _ _ hS (lv_sub hl [5, 6, 7, 9, 10, 11, 12, 13, 14, 3, 1, 0] rfl)
    · replace h := ifp c_12 h
      obtain rfl := Option.some.inj h
      exact hE _ _ _ hS (lv_sub hl [7] rfl)
set_option maxHeartbeats 4000000 in
set_option maxRecDepth 100000 in
theorem w_Dis_to_B37 {G : Gl} {p : Program} {l : Launch} {e : Env} {s : State} {m : MethodId} {args : Array Value} {below : List Frame} {meth : Method} {c : Code} {Q : State → Prop} (C : Cx G cX1_to 23 RX1 p s m args c) (a1 : Nat) (x2 : Int32) (x7 : Int64) (k1 : zK a1 = 6) (F : Nat) : ∀ (σ : (Int64 × Int64 × Int32 × Int32 × zM)) (q : Nat × (Int64 × Int64 × Int32 × Int32 × zM)), Dis_to_B37 F a1 x2 x7 σ = some q → (E_Dis_to_37 G p l e s m args below meth c Q a1 x2 x7) q.1 q.2 → (E_Dis_to_37 G p l e s m args below meth c Q a1 x2 x7) 0 σ := by
  intro (x3, x5, x9, x10, M) q h hE H locs ls hS hl
  obtain ⟨hx, hb, -⟩ := id C
  unfold Dis_to_B37 at h
  try dsimp only at h
  refine lv_iload hx hb dX1_to_37 (lv_at hl 7 rfl) ?_
  refine lv_iconst (v := 5) hx hb dX1_to_39 (by decide) ?_
  refine lv_icmp_ge (tgt := 203) hx hb dX1_to_40 (by decide) (fun c_4 => ?_) (fun c_4 => ?_)
  · replace h := ifp c_4 h
    obtain rfl := Option.some.inj h
    exact hE _ _ _ hS (lv_sub hl [6] rfl)
  · replace h := ifn c_4 h
    refine lv_aload_n hx hb dX1_to_43 rfl (lv_at hl 1 rfl) ?_
    refine lv_iload_n hx hb dX1_to_44 rfl (lv_at hl 2 rfl) ?_
    refine lv_iload hx hb dX1_to_45 (lv_at hl 7 rfl) ?_
    obtain ⟨⟨r_5, M_6⟩, hq_7, h⟩ := ob h
    try dsimp only at h
    refine r_thenL hS (r_runV C hS hl.1 cv_X1_25 k1 (c_X6_signs l G F a1 x2 x10 M k1 _ hq_7) ⟨by decide, by decide⟩ rfl rfl (Nat.le_of_ble_eq_true rfl) ⟨Nat.zero_le _, Nat.zero_le _⟩ dX1_to_47) (fun H locs hS => ?_)
    refine lv_lstore (lv' := [(11, .long r_5), (0, .ref (G.1 + 59)), (1, .ref (G.1 + a1)), (2, .int x2), (3, .long x3), (5, .long x5), (7, .long x7), (9, .int x9), (10, .int x10)]) hx hb dX1_to_50 hl (by decide) rfl (fun ls hl => ?_)
    refine lv_bipush (v := 55) hx hb dX1_to_52 (by decide) ?_
    refine lv_istore (lv' := [(13, .int 55), (11, .long r_5), (0, .ref (G.1 + 59)), (1, .ref (G.1 + a1)), (2, .int x2), (3, .long x3), (5, .long x5), (7, .long x7), (9, .int x9), (10, .int x10)]) hx hb dX1_to_54 hl (by decide) rfl (fun ls hl => ?_)
    obtain ⟨⟨k_42, x3_37, x5_38, x9_39, x13_40, M_41⟩, hq_43, h⟩ := ob h
    try dsimp only at h
    refine loopW (E := (E_Dis_to_56 G p l e s m _ below meth c _ a1 x2 x7 x10 r_5)) (w_Dis_to_B56 C a1 x2 x7 x10 r_5 k1 F) F _ _ hq_43 ?_ _ _ _ hS (lv_sub hl [2, 3, 4, 5, 6, 7, 8, 9, 1, 0] rfl)
    by_cases ek_47 : k_42 = 1
    · replace h := ifp ek_47 h
      subst ek_47
      intro H locs ls hS hl
      obtain rfl := Option.some.inj h
      exact hE _ _ _ hS (lv_sub hl [0] rfl)
    · replace h := ifn ek_47 h
      by_cases ek_46 : k_42 = 2
      · replace h := ifp ek_46 h
        subst ek_46
        intro H locs ls hS hl
        obtain ⟨x10_44, e_45, h⟩ := olt h
        refine lv_iinc (v := x10_44) (lv' := [(10, .int x10_44), (0, .ref (G.1 + 59)), (1, .ref (G.1 + a1)), (2, .int x2), (3, .long x3_37), (5, .long x5_38), (7, .long x7), (9, .int x9_39)]) hx hb dX1_to_197 hl (k := 7) rfl (by rw [e_45]; rfl) (by decide) rfl (fun ls hl => ?_)
        refine lv_goto (tgt := 37) hx hb dX1_to_200 (by decide) ?_
        obtain rfl := Option.some.inj h
        exact hE _ _ _ hS (lv_sub hl [1, 2, 3, 4, 5, 6, 7, 0] rfl)
      · replace h := ifn ek_46 h
        cases h
set_option maxHeartbeats 4000000 in
set_option maxRecDepth 100000 in
theorem w_Dis_to_J26 {G : Gl} {p : Program} {l : Launch} {e : Env} {s : State} {m : MethodId} {args : Array Value} {below : List Frame} {meth : Method} {c : Code} (C : Cx G cX1_to 23 RX1 p s m args c) (hr : meth.sig.returnType = (some .int)) (hlk : meth.locks = false) (F : Nat) (a1 : Nat) (x2 : Int32) (x3 : Int64) (x5 : Int64) (y0 : Int64) (M : zM) (k1 : zK a1 = 6) (q : Int32 × zM) (h : Dis_to_J26 F a1 x2 x3 x5 y0 M = some q) (H : Heap) (locs : List Loc) (ls : Array Slot) (hS : St G M s H locs) (hl : lv_has ls 23 [(0, .ref (G.1 + 59)), (1, .ref (G.1 + a1)), (2, .int x2), (3, .long x3), (5, .long x5)]) : W p l e (rmM 1 23) s m args below meth c H locs 0 0 (MQ below (PoI G q) args s 0 0 (gA G)) (F0 m 26 ls [.long y0]) := by
  obtain ⟨hx, hb, -⟩ := id C
  unfold Dis_to_J26 at h
  refine lv_lstore (lv' := [(7, .long y0), (0, .ref (G.1 + 59)), (1, .ref (G.1 + a1)), (2, .int x2), (3, .long x3), (5, .long x5)]) hx hb dX1_to_26 hl (by decide) rfl (fun ls hl => ?_)
  refine lv_aload_n hx hb dX1_to_28 rfl (lv_at hl 1 rfl) ?_
  refine r_gI C hS fl_X1_15 rfl rfl dX1_to_29 ?_
  obtain ⟨x9_2, e_3, h⟩ := olt h
  refine r_nI e_3 ?_
  refine lv_istore (lv' := [(9, .int x9_2), (7, .long y0), (0, .ref (G.1 + 59)), (1, .ref (G.1 + a1)), (2, .int x2), (3, .long x3), (5, .long x5)]) hx hb dX1_to_32 hl (by decide) rfl (fun ls hl => ?_)
  refine lv_iconst (v := 0) hx hb dX1_to_34 (by decide) ?_
  refine lv_istore (lv' := [(10, .int 0), (9, .int x9_2), (7, .long y0), (0, .ref (G.1 + 59)), (1, .ref (G.1 + a1)), (2, .int x2), (3, .long x3), (5, .long x5)]) hx hb dX1_to_35 hl (by decide) rfl (fun ls hl => ?_)
  obtain ⟨⟨k_53, x3_48, x5_49, x9_50, x10_51, M_52⟩, hq_54, h⟩ := ob h
  try dsimp only at h
  refine loopW (E := (E_Dis_to_37 G p l e s m _ below meth c _ a1 x2 y0)) (w_Dis_to_B37 C a1 x2 y0 k1 F) F _ _ hq_54 ?_ _ _ _ hS (lv_sub hl [3, 4, 5, 6, 7, 2, 1, 0] rfl)
  by_cases ek_56 : k_53 = 1
  · replace h := ifp ek_56 h
    subst ek_56
    intro H locs ls hS hl
    refine lv_iload hx hb dX1_to_75 (lv_at hl 0 rfl) ?_
    exact r_iret C hS hr hlk h dX1_to_77
  · replace h := ifn ek_56 h
    by_cases ek_55 : k_53 = 2
    · replace h := ifp ek_55 h
      subst ek_55
      intro H locs ls hS hl
      refine lv_iload hx hb dX1_to_203 (lv_at hl 0 rfl) ?_
      exact r_iret C hS hr hlk h dX1_to_205
    · replace h := ifn ek_55 h
      cases h
set_option maxHeartbeats 4000000 in
set_option maxRecDepth 100000 in
theorem c_X1_to (l : Launch) (G : Gl) (F : Nat) (a1 : Nat) (x2 : Int32) (M : zM) (k1 : zK a1 = 6) (q : Int32 × zM) (h : Dis_to F a1 x2 M = some q) : Met l yX1_to (wsM yX1_to cX1_to 23 (some .int)) (rmM 1 23) (Pre G M [.ref (G.1 + 59), .ref (G.1 + a1), .int x2]) (PoI G q) 0 0 (gA G) := by
  refine r_met (own := RX1) rfl (by decide) (Nat.le_of_ble_eq_true rfl) ?_
  intro p e s m below meth c ls C hr hlk hS hl
  have hl : lv_has ls 23 [(0, .ref (G.1 + 59)), (1, .ref (G.1 + a1)), (2, .int x2)] := hl
  obtain ⟨hx, hb, -⟩ := id C
  unfold Dis_to at h
  refine lv_ldc2 hx hb C.2.2.2.1 (C.2.2.2.2.1 _ tw_819) dX1_to_0 ?_
  refine lv_lstore_n (lv' := [(3, .long (-1)), (0, .ref (G.1 + 59)), (1, .ref (G.1 + a1)), (2, .int x2)]) hx hb dX1_to_3 rfl hl (by decide) rfl (fun ls hl => ?_)
  refine lv_lconst (v := 0) hx hb dX1_to_4 (by decide) ?_
  refine lv_lstore (lv' := [(5, .long 0), (3, .long (-1)), (0, .ref (G.1 + 59)), (1, .ref (G.1 + a1)), (2, .int x2)]) hx hb dX1_to_5 hl (by decide) rfl (fun ls hl => ?_)
  refine lv_aload_n hx hb dX1_to_7 rfl (lv_at hl 2 rfl) ?_
  refine r_gI C hS fl_X1_15 rfl rfl dX1_to_8 ?_
  refine lv_if_le (tgt := 25) hx hb dX1_to_11 (by decide) (fun c_1 => ?_) (fun c_1 => ?_)
  · replace h := ifp c_1 h
    refine lv_lconst (v := 0) hx hb dX1_to_25 (by decide) ?_
    exact w_Dis_to_J26 C hr hlk F a1 x2 (-1) 0 0 M k1 q h _ _ _ hS (lv_sub hl [2, 3, 4, 1, 0] rfl)
  · replace h := ifn c_1 h
    refine lv_lconst (v := 1) hx hb dX1_to_14 (by decide) ?_
    refine lv_aload_n hx hb dX1_to_15 rfl (lv_at hl 2 rfl) ?_
    refine r_gI C hS fl_X1_15 rfl rfl dX1_to_16 ?_
    refine lv_iconst (v := 1) hx hb dX1_to_19 (by decide) ?_
    refine lv_isub hx hb dX1_to_20 ?_
    refine lv_lshl (v := sl 1 ((M.1 59 1) - 1)) hx hb dX1_to_21 rfl ?_
    refine lv_goto (tgt := 26) hx hb dX1_to_22 (by decide) ?_
    exact w_Dis_to_J26 C hr hlk F a1 x2 (-1) 0 (sl 1 ((M.1 59 1) - 1)) M k1 q h _ _ _ hS (lv_sub hl [2, 3, 4, 1, 0] rfl)
set_option maxHeartbeats 4000000 in
set_option maxRecDepth 100000 in
theorem c_X2_faultNumber (l : Launch) (G : Gl) (F : Nat)  (M : zM)  (q : Int32 × zM) (h : Gra_faultNumber F  M = some q) : Met l yX2_faultNumber (wsM yX2_faultNumber cX2_faultNumber 1 (some .int)) (rmM 0 0) (Pre G M [.ref (G.1 + 12)]) (PoI G q) 0 0 (gA G) := by
  refine r_met (own := RX2) rfl (by decide) (Nat.le_of_ble_eq_true rfl) ?_
  intro p e s m below meth c ls C hr hlk hS hl
  have hl : lv_has ls 1 [(0, .ref (G.1 + 12))] := hl
  obtain ⟨hx, hb, -⟩ := id C
  unfold Gra_faultNumber at h
  refine lv_aload_n hx hb dX2_faultNumber_0 rfl (lv_at hl 0 rfl) ?_
  refine r_gI C hS fl_X2_23 rfl rfl dX2_faultNumber_1 ?_
  exact r_iret C hS hr hlk h dX2_faultNumber_4
set_option maxHeartbeats 4000000 in
set_option maxRecDepth 100000 in
theorem c_X2_faultByte (l : Launch) (G : Gl) (F : Nat)  (M : zM)  (q : Int32 × zM) (h : Gra_faultByte F  M = some q) : Met l yX2_faultByte (wsM yX2_faultByte cX2_faultByte 1 (some .int)) (rmM 0 0) (Pre G M [.ref (G.1 + 12)]) (PoI G q) 0 0 (gA G) := by
  refine r_met (own := RX2) rfl (by decide) (Nat.le_of_ble_eq_true rfl) ?_
  intro p e s m below meth c ls C hr hlk hS hl
  have hl : lv_has ls 1 [(0, .ref (G.1 + 12))] := hl
  obtain ⟨hx, hb, -⟩ := id C
  unfold Gra_faultByte at h
  refine lv_aload_n hx hb dX2_faultByte_0 rfl (lv_at hl 0 rfl) ?_
  refine r_gI C hS fl_X2_9 rfl rfl dX2_faultByte_1 ?_
  exact r_iret C hS hr hlk h dX2_faultByte_4
set_option maxHeartbeats 4000000 in
set_option maxRecDepth 100000 in
theorem c_X8_moveTo (l : Launch) (G : Gl) (F : Nat) (x1 : Int32) (M : zM)  (q : Unit × zM) (h : Tex_moveTo F x1 M = some q) : Met l yX8_moveTo (wsM yX8_moveTo cX8_moveTo 2 none) (rmM 0 0) (Pre G M [.ref (G.1 + 1), .int x1]) (PoV G q) 0 0 (gA G) := by
  refine r_met (own := RX8) rfl (by decide) (Nat.le_of_ble_eq_true rfl) ?_
  intro p e s m below meth c ls C hr hlk hS hl
  have hl : lv_has ls 2 [(0, .ref (G.1 + 1)), (1, .int x1)] := hl
  obtain ⟨hx, hb, -⟩ := id C
  unfold Tex_moveTo at h
  refine lv_aload_n hx hb dX8_moveTo_0 rfl (lv_at hl 0 rfl) ?_
  refine lv_iload_n hx hb dX8_moveTo_1 rfl (lv_at hl 1 rfl) ?_
  obtain ⟨M_1, e_2, h⟩ := olt h
  refine r_pI C hS fp_X8_19 rfl rfl e_2 dX8_moveTo_2 (fun H locs hS => ?_)
  exact r_vret C hS hr hlk h dX8_moveTo_5
def E_Tex_skipBlanks_0 (G : Gl) (p : Program) (l : Launch) (e : Env) (s : State) (m : MethodId) (args : Array Value) (below : List Frame) (meth : Method) (c : Code) (Q : State → Prop)  : Nat → zM → Prop := fun k (M) => match k with
  | 0 => ∀ (H : Heap) (locs : List Loc) (ls : Array Slot), St G M s H locs → lv_has ls 1 [(0, .ref (G.1 + 1))] → W p l e (rmM 0 0) s m args below meth c H locs 0 0 Q (F0 m 0 ls [])
  | 1 => ∀ (H : Heap) (locs : List Loc) (ls : Array Slot), St G M s H locs → lv_has ls 1 [] → W p l e (rmM 0 0) s m args below meth c H locs 0 0 Q (F0 m 38 ls [])
  | _ => True
set_option maxHeartbeats 4000000 in
set_option maxRecDepth 100000 in
theorem w_Tex_skipBlanks_B0 {G : Gl} {p : Program} {l : Launch} {e : Env} {s : State} {m : MethodId} {args : Array Value} {below : List Frame} {meth : Method} {c : Code} {Q : State → Prop} (C : Cx G cX8_skipBlanks 1 RX8 p s m args c)  (F : Nat) : ∀ (σ : zM) (q : Nat × zM), Tex_skipBlanks_B0 F  σ = some q → (E_Tex_skipBlanks_0 G p l e s m args below meth c Q ) q.1 q.2 → (E_Tex_skipBlanks_0 G p l e s m args below meth c Q ) 0 σ := by
  intro (M) q h hE H locs ls hS hl
  obtain ⟨hx, hb, -⟩ := id C
  unfold Tex_skipBlanks_B0 at h
  try dsimp only at h
  refine lv_aload_n hx hb dX8_skipBlanks_0 rfl (lv_at hl 0 rfl) ?_
  refine r_gI C hS fl_X8_19 rfl rfl dX8_skipBlanks_1 ?_
  refine lv_aload_n hx hb dX8_skipBlanks_4 rfl (lv_at hl 0 rfl) ?_
  refine r_gI C hS fl_X8_15 rfl rfl dX8_skipBlanks_5 ?_
  refine lv_icmp_ge (tgt := 38) hx hb dX8_skipBlanks_8 (by decide) (fun c_1 => ?_) (fun c_1 => ?_)
  · replace h := ifp c_1 h
    obtain rfl := Option.some.inj h
    exact hE _ _ _ hS (lv_sub hl [] rfl)
  · replace h := ifn c_1 h
    refine lv_aload_n hx hb dX8_skipBlanks_11 rfl (lv_at hl 0 rfl) ?_
    refine r_gR C hS fl_X8_11 rfl rfl rfl dX8_skipBlanks_12 ?_
    refine lv_aload_n hx hb dX8_skipBlanks_15 rfl (lv_at hl 0 rfl) ?_
    refine r_gI C hS fl_X8_19 rfl rfl dX8_skipBlanks_16 ?_
    obtain ⟨b_2, h⟩ := ift h
    refine r_bald C hS rfl rfl b_2 dX8_skipBlanks_19 ?_
    refine lv_bipush (v := 32) hx hb dX8_skipBlanks_20 (by decide) ?_
    refine lv_icmp_ne (tgt := 38) hx hb dX8_skipBlanks_22 (by decide) (fun c_3 => ?_) (fun c_3 => ?_)
    · replace h := ifn c_3 h
      obtain rfl := Option.some.inj h
      exact hE _ _ _ hS (lv_sub hl [] rfl)
    · replace h := ifp c_3 h
      refine lv_aload_n hx hb dX8_skipBlanks_25 rfl (lv_at hl 0 rfl) ?_
      refine lv_dup hx hb dX8_skipBlanks_26 rfl ?_
      refine r_gI C hS fl_X8_19 rfl rfl dX8_skipBlanks_27 ?_
      refine lv_iconst (v := 1) hx hb dX8_skipBlanks_30 (by decide) ?_
      refine lv_iadd hx hb dX8_skipBlanks_31 ?_
      obtain ⟨M_4, e_5, h⟩ := olt h
      refine r_pI C hS fp_X8_19 rfl rfl e_5 dX8_skipBlanks_32 (fun H locs hS => ?_)
      refine lv_goto (tgt := 0) hx hb dX8_skipBlanks_35 (by decide) ?_
      obtain rfl := Option.some.inj h
      exact hE _ _ _ hS (lv_sub hl [0] rfl)
set_option maxHeartbeats 4000000 in
set_option maxRecDepth 100000 in
theorem c_X8_skipBlanks (l : Launch) (G : Gl) (F : Nat)  (M : zM)  (q : Unit × zM) (h : Tex_skipBlanks F  M = some q) : Met l yX8_skipBlanks (wsM yX8_skipBlanks cX8_skipBlanks 1 none) (rmM 0 0) (Pre G M [.ref (G.1 + 1)]) (PoV G q) 0 0 (gA G) := by
  refine r_met (own := RX8) rfl (by decide) (Nat.le_of_ble_eq_true rfl) ?_
  intro p e s m below meth c ls C hr hlk hS hl
  have hl : lv_has ls 1 [(0, .ref (G.1 + 1))] := hl
  obtain ⟨hx, hb, -⟩ := id C
  unfold Tex_skipBlanks at h
  obtain ⟨⟨k_7, M_6⟩, hq_8, h⟩ := ob h
  try dsimp only at h
  refine loopW (E := (E_Tex_skipBlanks_0 G p l e s m _ below meth c _ )) (w_Tex_skipBlanks_B0 C  F) F _ _ hq_8 ?_ _ _ _ hS (lv_sub hl [0] rfl)
  by_cases ek_9 : k_7 = 1
  · replace h := ifp ek_9 h
    subst ek_9
    intro H locs ls hS hl
    exact r_vret C hS hr hlk h dX8_skipBlanks_38
  · replace h := ifn ek_9 h
    cases h
set_option maxHeartbeats 4000000 in
set_option maxRecDepth 100000 in
theorem c_X8_byteAt (l : Launch) (G : Gl) (F : Nat) (x1 : Int32) (M : zM)  (q : Int32 × zM) (h : Tex_byteAt F x1 M = some q) : Met l yX8_byteAt (wsM yX8_byteAt cX8_byteAt 2 (some .int)) (rmM 0 0) (Pre G M [.ref (G.1 + 1), .int x1]) (PoI G q) 0 0 (gA G) := by
  refine r_met (own := RX8) rfl (by decide) (Nat.le_of_ble_eq_true rfl) ?_
  intro p e s m below meth c ls C hr hlk hS hl
  have hl : lv_has ls 2 [(0, .ref (G.1 + 1)), (1, .int x1)] := hl
  obtain ⟨hx, hb, -⟩ := id C
  unfold Tex_byteAt at h
  refine lv_iload_n hx hb dX8_byteAt_0 rfl (lv_at hl 1 rfl) ?_
  refine lv_if_lt (tgt := 25) hx hb dX8_byteAt_1 (by decide) (fun c_1 => ?_) (fun c_1 => ?_)
  · replace h := ifp c_1 h
    refine lv_iconst (v := (-1)) hx hb dX8_byteAt_25 (by decide) ?_
    exact r_iret C hS hr hlk h dX8_byteAt_26
  · replace h := ifn c_1 h
    refine lv_iload_n hx hb dX8_byteAt_4 rfl (lv_at hl 1 rfl) ?_
    refine lv_aload_n hx hb dX8_byteAt_5 rfl (lv_at hl 0 rfl) ?_
    refine r_gI C hS fl_X8_15 rfl rfl dX8_byteAt_6 ?_
    refine lv_icmp_ge (tgt := 25) hx hb dX8_byteAt_9 (by decide) (fun c_2 => ?_) (fun c_2 => ?_)
    · replace h := ifp c_2 h
      refine lv_iconst (v := (-1)) hx hb dX8_byteAt_25 (by decide) ?_
      exact r_iret C hS hr hlk h dX8_byteAt_26
    · replace h := ifn c_2 h
      refine lv_aload_n hx hb dX8_byteAt_12 rfl (lv_at hl 0 rfl) ?_
      refine r_gR C hS fl_X8_11 rfl rfl rfl dX8_byteAt_13 ?_
      refine lv_iload_n hx hb dX8_byteAt_16 rfl (lv_at hl 1 rfl) ?_
      obtain ⟨b_3, h⟩ := ift h
      refine r_bald C hS rfl rfl b_3 dX8_byteAt_17 ?_
      refine lv_sipush (v := 255) hx hb dX8_byteAt_18 (by decide) ?_
      refine lv_iand hx hb dX8_byteAt_21 ?_
      refine lv_goto (tgt := 26) hx hb dX8_byteAt_22 (by decide) ?_
      exact r_iret C hS hr hlk h dX8_byteAt_26
set_option maxHeartbeats 4000000 in
set_option maxRecDepth 100000 in
theorem c_X8_current (l : Launch) (G : Gl) (F : Nat)  (M : zM)  (q : Int32 × zM) (h : Tex_current F  M = some q) : Met l yX8_current (wsM yX8_current cX8_current 1 (some .int)) (rmM 1 21) (Pre G M [.ref (G.1 + 1)]) (PoI G q) 0 0 (gA G) := by
  refine r_met (own := RX8) rfl (by decide) (Nat.le_of_ble_eq_true rfl) ?_
  intro p e s m below meth c ls C hr hlk hS hl
  have hl : lv_has ls 1 [(0, .ref (G.1 + 1))] := hl
  obtain ⟨hx, hb, -⟩ := id C
  unfold Tex_current at h
  refine lv_aload_n hx hb dX8_current_0 rfl (lv_at hl 0 rfl) ?_
  refine lv_aload_n hx hb dX8_current_1 rfl (lv_at hl 0 rfl) ?_
  refine r_gI C hS fl_X8_19 rfl rfl dX8_current_2 ?_
  obtain ⟨⟨r_1, M_2⟩, hq_3, h⟩ := ob h
  try dsimp only at h
  refine r_thenI hS (r_runV C hS hl.1 cv_X8_22 rfl (c_X8_byteAt l G F (M.1 1 2) M  _ hq_3) ⟨by decide, by decide⟩ rfl rfl (Nat.le_of_ble_eq_true rfl) ⟨Nat.zero_le _, Nat.zero_le _⟩ dX8_current_5) (fun H locs hS => ?_)
  exact r_iret C hS hr hlk h dX8_current_8
def E_Tex_endOf_5 (G : Gl) (p : Program) (l : Launch) (e : Env) (s : State) (m : MethodId) (args : Array Value) (below : List Frame) (meth : Method) (c : Code) (Q : State → Prop) (x1 : Int32) (x2 : Int32) : Nat → (Int32 × zM) → Prop := fun k (x3, M) => match k with
  | 0 => ∀ (H : Heap) (locs : List Loc) (ls : Array Slot), St G M s H locs → lv_has ls 4 [(0, .ref (G.1 + 1)), (1, .int x1), (2, .int x2), (3, .int x3)] → W p l e (rmM 0 0) s m args below meth c H locs 0 0 Q (F0 m 5 ls [])
  | 1 => ∀ (H : Heap) (locs : List Loc) (ls : Array Slot), St G M s H locs → lv_has ls 4 [(3, .int x3)] → W p l e (rmM 0 0) s m args below meth c H locs 0 0 Q (F0 m 39 ls [])
  | _ => True
set_option maxHeartbeats 4000000 in
set_option maxRecDepth 100000 in
theorem w_Tex_endOf_B5 {G : Gl} {p : Program} {l : Launch} {e : Env} {s : State} {m : MethodId} {args : Array Value} {below : List Frame} {meth : Method} {c : Code} {Q : State → Prop} (C : Cx G cX8_endOf 4 RX8 p s m args c) (x1 : Int32) (x2 : Int32) (F : Nat) : ∀ (σ : (Int32 × zM)) (q : Nat × (Int32 × zM)), Tex_endOf_B5 F x1 x2 σ = some q → (E_Tex_endOf_5 G p l e s m args below meth c Q x1 x2) q.1 q.2 → (E_Tex_endOf_5 G p l e s m args below meth c Q x1 x2) 0 σ := by
  intro (x3, M) q h hE H locs ls hS hl
  obtain ⟨hx, hb, -⟩ := id C
  unfold Tex_endOf_B5 at h
  try dsimp only at h
  refine lv_iload_n hx hb dX8_endOf_5 rfl (lv_at hl 3 rfl) ?_
  refine lv_aload_n hx hb dX8_endOf_6 rfl (lv_at hl 0 rfl) ?_
  refine r_gI C hS fl_X8_15 rfl rfl dX8_endOf_7 ?_
  refine lv_icmp_ge (tgt := 39) hx hb dX8_endOf_10 (by decide) (fun c_3 => ?_) (fun c_3 => ?_)
  · replace h := ifp c_3 h
    obtain rfl := Option.some.inj h
    exact hE _ _ _ hS (lv_sub hl [3] rfl)
  · replace h := ifn c_3 h
    refine lv_aload_n hx hb dX8_endOf_13 rfl (lv_at hl 0 rfl) ?_
    refine r_gR C hS fl_X8_11 rfl rfl rfl dX8_endOf_14 ?_
    refine lv_iload_n hx hb dX8_endOf_17 rfl (lv_at hl 3 rfl) ?_
    obtain ⟨b_4, h⟩ := ift h
    refine r_bald C hS rfl rfl b_4 dX8_endOf_18 ?_
    refine lv_iload_n hx hb dX8_endOf_19 rfl (lv_at hl 1 rfl) ?_
    refine lv_icmp_lt (tgt := 39) hx hb dX8_endOf_20 (by decide) (fun c_5 => ?_) (fun c_5 => ?_)
    · replace h := ifp c_5 h
      obtain rfl := Option.some.inj h
      exact hE _ _ _ hS (lv_sub hl [3] rfl)
    · replace h := ifn c_5 h
      refine lv_aload_n hx hb dX8_endOf_23 rfl (lv_at hl 0 rfl) ?_
      refine r_gR C hS fl_X8_11 rfl rfl rfl dX8_endOf_24 ?_
      refine lv_iload_n hx hb dX8_endOf_27 rfl (lv_at hl 3 rfl) ?_
      refine r_bald C hS rfl rfl b_4 dX8_endOf_28 ?_
      refine lv_iload_n hx hb dX8_endOf_29 rfl (lv_at hl 2 rfl) ?_
      refine lv_icmp_gt (tgt := 39) hx hb dX8_endOf_30 (by decide) (fun c_6 => ?_) (fun c_6 => ?_)
      · replace h := ifp c_6 h
        obtain rfl := Option.some.inj h
        exact hE _ _ _ hS (lv_sub hl [3] rfl)
      · replace h := ifn c_6 h
        obtain ⟨x3_7, e_8, h⟩ := olt h
        refine lv_iinc (v := x3_7) (lv' := [(3, .int x3_7), (0, .ref (G.1 + 1)), (1, .int x1), (2, .int x2)]) hx hb dX8_endOf_33 hl (k := 3) rfl (by rw [e_8]; rfl) (by decide) rfl (fun ls hl => ?_)
        refine lv_goto (tgt := 5) hx hb dX8_endOf_36 (by decide) ?_
        obtain rfl := Option.some.inj h
        exact hE _ _ _ hS (lv_sub hl [1, 2, 3, 0] rfl)
set_option maxHeartbeats 4000000 in
set_option maxRecDepth 100000 in
theorem c_X8_endOf (l : Launch) (G : Gl) (F : Nat) (x1 : Int32) (x2 : Int32) (M : zM)  (q : Int32 × zM) (h : Tex_endOf F x1 x2 M = some q) : Met l yX8_endOf (wsM yX8_endOf cX8_endOf 4 (some .int)) (rmM 0 0) (Pre G M [.ref (G.1 + 1), .int x1, .int x2]) (PoI G q) 0 0 (gA G) := by
  refine r_met (own := RX8) rfl (by decide) (Nat.le_of_ble_eq_true rfl) ?_
  intro p e s m below meth c ls C hr hlk hS hl
  have hl : lv_has ls 4 [(0, .ref (G.1 + 1)), (1, .int x1), (2, .int x2)] := hl
  obtain ⟨hx, hb, -⟩ := id C
  unfold Tex_endOf at h
  refine lv_aload_n hx hb dX8_endOf_0 rfl (lv_at hl 0 rfl) ?_
  refine r_gI C hS fl_X8_19 rfl rfl dX8_endOf_1 ?_
  obtain ⟨x3_1, e_2, h⟩ := olt h
  refine r_nI e_2 ?_
  refine lv_istore_n (lv' := [(3, .int x3_1), (0, .ref (G.1 + 1)), (1, .int x1), (2, .int x2)]) hx hb dX8_endOf_4 rfl hl (by decide) rfl (fun ls hl => ?_)
  obtain ⟨⟨k_11, x3_9, M_10⟩, hq_12, h⟩ := ob h
  try dsimp only at h
  refine loopW (E := (E_Tex_endOf_5 G p l e s m _ below meth c _ x1 x2)) (w_Tex_endOf_B5 C x1 x2 F) F _ _ hq_12 ?_ _ _ _ hS (lv_sub hl [1, 2, 3, 0] rfl)
  by_cases ek_13 : k_11 = 1
  · replace h := ifp ek_13 h
    subst ek_13
    intro H locs ls hS hl
    refine lv_iload_n hx hb dX8_endOf_39 rfl (lv_at hl 0 rfl) ?_
    exact r_iret C hS hr hlk h dX8_endOf_40
  · replace h := ifn ek_13 h
    cases h
def E_Tex_wordIs_24 (G : Gl) (p : Program) (l : Launch) (e : Env) (s : State) (m : MethodId) (args : Array Value) (below : List Frame) (meth : Method) (c : Code) (Q : State → Prop) (w1 : Nat) : Nat → (Int32 × zM) → Prop := fun k (x2, M) => match k with
  | 0 => ∀ (H : Heap) (locs : List Loc) (ls : Array Slot), St G M s H locs → lv_has ls 3 [(0, .ref (G.1 + 1)), (1, .ref (G.2.2.2.2.1 w1)), (2, .int x2)] → W p l e (rmM 4 85) s m args below meth c H locs 0 0 Q (F0 m 24 ls [])
  | 1 => ∀ (H : Heap) (locs : List Loc) (ls : Array Slot), St G M s H locs → lv_has ls 3 [] → W p l e (rmM 4 85) s m args below meth c H locs 0 0 Q (F0 m 50 ls [])
  | 2 => ∀ (H : Heap) (locs : List Loc) (ls : Array Slot), St G M s H locs → lv_has ls 3 [] → W p l e (rmM 4 85) s m args below meth c H locs 0 0 Q (F0 m 58 ls [])
  | _ => True
set_option maxHeartbeats 4000000 in
set_option maxRecDepth 100000 in
theorem w_Tex_wordIs_B24 {G : Gl} {p : Program} {l : Launch} {e : Env} {s : State} {m : MethodId} {args : Array Value} {below : List Frame} {meth : Method} {c : Code} {Q : State → Prop} (C : Cx G cX8_wordIs 3 RX8 p s m args c) (w1 : Nat) (k1 : w1 < 4) (F : Nat) : ∀ (σ : (Int32 × zM)) (q : Nat × (Int32 × zM)), Tex_wordIs_B24 F w1 σ = some q → (E_Tex_wordIs_24 G p l e s m args below meth c Q w1) q.1 q.2 → (E_Tex_wordIs_24 G p l e s m args below meth c Q w1) 0 σ := by
  intro (x2, M) q h hE H locs ls hS hl
  obtain ⟨hx, hb, -⟩ := id C
  unfold Tex_wordIs_B24 at h
  try dsimp only at h
  refine lv_iload_n hx hb dX8_wordIs_24 rfl (lv_at hl 2 rfl) ?_
  refine lv_aload_n hx hb dX8_wordIs_25 rfl (lv_at hl 1 rfl) ?_
  obtain ⟨⟨r_8, M_9⟩, hq_10, h⟩ := ob h
  try dsimp only at h
  refine r_thenI hS (r_runK C hS hl.1 cs_X8_30 k1 (c_J0_length_8abf5 l G F w1 M k1 _ hq_10) ⟨by decide, by decide⟩ rfl rfl (Nat.le_of_ble_eq_true rfl) ⟨Nat.zero_le _, Nat.zero_le _⟩ dX8_wordIs_26) (fun H locs hS => ?_)
  refine lv_icmp_ge (tgt := 58) hx hb dX8_wordIs_29 (by decide) (fun c_11 => ?_) (fun c_11 => ?_)
  · replace h := ifp c_11 h
    obtain rfl := Option.some.inj h
    exact hE _ _ _ hS (lv_sub hl [] rfl)
  · replace h := ifn c_11 h
    refine lv_aload_n hx hb dX8_wordIs_32 rfl (lv_at hl 0 rfl) ?_
    refine lv_aload_n hx hb dX8_wordIs_33 rfl (lv_at hl 0 rfl) ?_
    refine r_gI C hS fl_X8_19 rfl rfl dX8_wordIs_34 ?_
    refine lv_iload_n hx hb dX8_wordIs_37 rfl (lv_at hl 2 rfl) ?_
    refine lv_iadd hx hb dX8_wordIs_38 ?_
    obtain ⟨⟨r_12, M_13⟩, hq_14, h⟩ := ob h
    try dsimp only at h
    refine r_thenI hS (r_runV C hS hl.1 cv_X8_22 rfl (c_X8_byteAt l G F ((M_9.1 1 2) + x2) M_9  _ hq_14) ⟨by decide, by decide⟩ rfl rfl (Nat.le_of_ble_eq_true rfl) ⟨Nat.zero_le _, Nat.zero_le _⟩ dX8_wordIs_39) (fun H locs hS => ?_)
    refine lv_aload_n hx hb dX8_wordIs_42 rfl (lv_at hl 1 rfl) ?_
    refine lv_iload_n hx hb dX8_wordIs_43 rfl (lv_at hl 2 rfl) ?_
    obtain ⟨⟨r_15, M_16⟩, hq_17, h⟩ := ob h
    try dsimp only at h
    refine r_thenI hS (r_runK C hS hl.1 cs_X8_36 k1 (c_J0_charAt_5068e l G F w1 x2 M_13 k1 _ hq_17) ⟨by decide, by decide⟩ rfl rfl (Nat.le_of_ble_eq_true rfl) ⟨Nat.zero_le _, Nat.zero_le _⟩ dX8_wordIs_44) (fun H locs hS => ?_)
    refine lv_icmp_eq (tgt := 52) hx hb dX8_wordIs_47 (by decide) (fun c_18 => ?_) (fun c_18 => ?_)
    · replace h := ifp c_18 h
      obtain ⟨x2_19, e_20, h⟩ := olt h
      refine lv_iinc (v := x2_19) (lv' := [(2, .int x2_19), (0, .ref (G.1 + 1)), (1, .ref (G.2.2.2.2.1 w1))]) hx hb dX8_wordIs_52 hl (k := 2) rfl (by rw [e_20]; rfl) (by decide) rfl (fun ls hl => ?_)
      refine lv_goto (tgt := 24) hx hb dX8_wordIs_55 (by decide) ?_
      obtain rfl := Option.some.inj h
      exact hE _ _ _ hS (lv_sub hl [1, 2, 0] rfl)
    · replace h := ifn c_18 h
      obtain rfl := Option.some.inj h
      exact hE _ _ _ hS (lv_sub hl [] rfl)
set_option maxHeartbeats 4000000 in
set_option maxRecDepth 100000 in
theorem c_X8_wordIs (l : Launch) (G : Gl) (F : Nat) (w1 : Nat) (M : zM) (k1 : w1 < 4) (q : Int32 × zM) (h : Tex_wordIs F w1 M = some q) : Met l yX8_wordIs (wsM yX8_wordIs cX8_wordIs 3 (some .boolean)) (rmM 4 85) (Pre G M [.ref (G.1 + 1), .ref (G.2.2.2.2.1 w1)]) (PoI G q) 0 0 (gA G) := by
  refine r_met (own := RX8) rfl (by decide) (Nat.le_of_ble_eq_true rfl) ?_
  intro p e s m below meth c ls C hr hlk hS hl
  have hl : lv_has ls 3 [(0, .ref (G.1 + 1)), (1, .ref (G.2.2.2.2.1 w1))] := hl
  obtain ⟨hx, hb, -⟩ := id C
  unfold Tex_wordIs at h
  refine lv_aload_n hx hb dX8_wordIs_0 rfl (lv_at hl 0 rfl) ?_
  refine lv_bipush (v := 97) hx hb dX8_wordIs_1 (by decide) ?_
  refine lv_bipush (v := 122) hx hb dX8_wordIs_3 (by decide) ?_
  obtain ⟨⟨r_1, M_2⟩, hq_3, h⟩ := ob h
  try dsimp only at h
  refine r_thenI hS (r_runV C hS hl.1 cv_X8_26 rfl (c_X8_endOf l G F 97 122 M  _ hq_3) ⟨by decide, by decide⟩ rfl rfl (Nat.le_of_ble_eq_true rfl) ⟨Nat.zero_le _, Nat.zero_le _⟩ dX8_wordIs_5) (fun H locs hS => ?_)
  refine lv_aload_n hx hb dX8_wordIs_8 rfl (lv_at hl 0 rfl) ?_
  refine r_gI C hS fl_X8_19 rfl rfl dX8_wordIs_9 ?_
  refine lv_isub hx hb dX8_wordIs_12 ?_
  refine lv_aload_n hx hb dX8_wordIs_13 rfl (lv_at hl 1 rfl) ?_
  obtain ⟨⟨r_4, M_5⟩, hq_6, h⟩ := ob h
  try dsimp only at h
  refine r_thenI hS (r_runK C hS hl.1 cs_X8_30 k1 (c_J0_length_8abf5 l G F w1 M_2 k1 _ hq_6) ⟨by decide, by decide⟩ rfl rfl (Nat.le_of_ble_eq_true rfl) ⟨Nat.zero_le _, Nat.zero_le _⟩ dX8_wordIs_14) (fun H locs hS => ?_)
  refine lv_icmp_eq (tgt := 22) hx hb dX8_wordIs_17 (by decide) (fun c_7 => ?_) (fun c_7 => ?_)
  · replace h := ifp c_7 h
    refine lv_iconst (v := 0) hx hb dX8_wordIs_22 (by decide) ?_
    refine lv_istore_n (lv' := [(2, .int 0), (0, .ref (G.1 + 1)), (1, .ref (G.2.2.2.2.1 w1))]) hx hb dX8_wordIs_23 rfl hl (by decide) rfl (fun ls hl => ?_)
    obtain ⟨⟨k_23, x2_21, M_22⟩, hq_24, h⟩ := ob h
    try dsimp only at h
    refine loopW (E := (E_Tex_wordIs_24 G p l e s m _ below meth c _ w1)) (w_Tex_wordIs_B24 C w1 k1 F) F _ _ hq_24 ?_ _ _ _ hS (lv_sub hl [1, 2, 0] rfl)
    by_cases ek_26 : k_23 = 1
    · replace h := ifp ek_26 h
      subst ek_26
      intro H locs ls hS hl
      refine lv_iconst (v := 0) hx hb dX8_wordIs_50 (by decide) ?_
      exact r_zret C hS hr hlk h dX8_wordIs_51
    · replace h := ifn ek_26 h
      by_cases ek_25 : k_23 = 2
      · replace h := ifp ek_25 h
        subst ek_25
        intro H locs ls hS hl
        refine lv_iconst (v := 1) hx hb dX8_wordIs_58 (by decide) ?_
        exact r_zret C hS hr hlk h dX8_wordIs_59
      · replace h := ifn ek_25 h
        cases h
  · replace h := ifn c_7 h
    refine lv_iconst (v := 0) hx hb dX8_wordIs_20 (by decide) ?_
    exact r_zret C hS hr hlk h dX8_wordIs_21
set_option maxHeartbeats 4000000 in
set_option maxRecDepth 100000 in
theorem c_X8_at (l : Launch) (G : Gl) (F : Nat)  (M : zM)  (q : Int32 × zM) (h : Tex_at F  M = some q) : Met l yX8_at (wsM yX8_at cX8_at 1 (some .int)) (rmM 0 0) (Pre G M [.ref (G.1 + 1)]) (PoI G q) 0 0 (gA G) := by
  refine r_met (own := RX8) rfl (by decide) (Nat.le_of_ble_eq_true rfl) ?_
  intro p e s m below meth c ls C hr hlk hS hl
  have hl : lv_has ls 1 [(0, .ref (G.1 + 1))] := hl
  obtain ⟨hx, hb, -⟩ := id C
  unfold Tex_at at h
  refine lv_aload_n hx hb dX8_at_0 rfl (lv_at hl 0 rfl) ?_
  refine r_gI C hS fl_X8_19 rfl rfl dX8_at_1 ?_
  exact r_iret C hS hr hlk h dX8_at_4
set_option maxHeartbeats 4000000 in
set_option maxRecDepth 100000 in
theorem c_X2_fail (l : Launch) (G : Gl) (F : Nat) (x1 : Int32) (x2 : Int32) (M : zM)  (q : Int32 × zM) (h : Gra_fail F x1 x2 M = some q) : Met l yX2_fail (wsM yX2_fail cX2_fail 3 (some .boolean)) (rmM 0 0) (Pre G M [.ref (G.1 + 12), .int x1, .int x2]) (PoI G q) 0 0 (gA G) := by
  refine r_met (own := RX2) rfl (by decide) (Nat.le_of_ble_eq_true rfl) ?_
  intro p e s m below meth c ls C hr hlk hS hl
  have hl : lv_has ls 3 [(0, .ref (G.1 + 12)), (1, .int x1), (2, .int x2)] := hl
  obtain ⟨hx, hb, -⟩ := id C
  unfold Gra_fail at h
  refine lv_aload_n hx hb dX2_fail_0 rfl (lv_at hl 0 rfl) ?_
  refine lv_iload_n hx hb dX2_fail_1 rfl (lv_at hl 1 rfl) ?_
  obtain ⟨M_1, e_2, h⟩ := olt h
  refine r_pI C hS fp_X2_23 rfl rfl e_2 dX2_fail_2 (fun H locs hS => ?_)
  refine lv_aload_n hx hb dX2_fail_5 rfl (lv_at hl 0 rfl) ?_
  refine lv_iload_n hx hb dX2_fail_6 rfl (lv_at hl 2 rfl) ?_
  obtain ⟨M_3, e_4, h⟩ := olt h
  refine r_pI C hS fp_X2_9 rfl rfl e_4 dX2_fail_7 (fun H locs hS => ?_)
  refine lv_iconst (v := 0) hx hb dX2_fail_10 (by decide) ?_
  exact r_zret C hS hr hlk h dX2_fail_11
set_option maxHeartbeats 4000000 in
set_option maxRecDepth 100000 in
theorem c_X2_parseKeyword (l : Launch) (G : Gl) (F : Nat) (w1 : Nat) (M : zM) (k1 : w1 < 4) (q : Int32 × zM) (h : Gra_parseKeyword F w1 M = some q) : Met l yX2_parseKeyword (wsM yX2_parseKeyword cX2_parseKeyword 2 (some .boolean)) (rmM 5 107) (Pre G M [.ref (G.1 + 12), .ref (G.2.2.2.2.1 w1)]) (PoI G q) 0 0 (gA G) := by
  refine r_met (own := RX2) rfl (by decide) (Nat.le_of_ble_eq_true rfl) ?_
  intro p e s m below meth c ls C hr hlk hS hl
  have hl : lv_has ls 2 [(0, .ref (G.1 + 12)), (1, .ref (G.2.2.2.2.1 w1))] := hl
  obtain ⟨hx, hb, -⟩ := id C
  unfold Gra_parseKeyword at h
  refine lv_aload_n hx hb dX2_parseKeyword_0 rfl (lv_at hl 0 rfl) ?_
  refine r_gR C hS fl_X2_15 rfl rfl rfl dX2_parseKeyword_1 ?_
  obtain ⟨⟨_r_1, M_2⟩, hq_3, h⟩ := ob h
  try dsimp only at h
  refine r_thenV hS (r_runV C hS hl.1 cv_X2_37 rfl (c_X8_skipBlanks l G F  M  _ hq_3) ⟨by decide, by decide⟩ rfl rfl (Nat.le_of_ble_eq_true rfl) ⟨Nat.zero_le _, Nat.zero_le _⟩ dX2_parseKeyword_4) (fun H locs hS => ?_)
  refine lv_aload_n hx hb dX2_parseKeyword_7 rfl (lv_at hl 0 rfl) ?_
  refine r_gR C hS fl_X2_15 rfl rfl rfl dX2_parseKeyword_8 ?_
  refine lv_aload_n hx hb dX2_parseKeyword_11 rfl (lv_at hl 1 rfl) ?_
  obtain ⟨⟨r_4, M_5⟩, hq_6, h⟩ := ob h
  try dsimp only at h
  refine r_thenI hS (r_runV C hS hl.1 cv_X2_50 rfl (c_X8_wordIs l G F w1 M_2 k1 _ hq_6) ⟨by decide, by decide⟩ rfl rfl (Nat.le_of_ble_eq_true rfl) ⟨Nat.zero_le _, Nat.zero_le _⟩ dX2_parseKeyword_12) (fun H locs hS => ?_)
  refine lv_if_ne (tgt := 31) hx hb dX2_parseKeyword_15 (by decide) (fun c_7 => ?_) (fun c_7 => ?_)
  · replace h := ifn c_7 h
    refine lv_aload_n hx hb dX2_parseKeyword_31 rfl (lv_at hl 0 rfl) ?_
    refine r_gR C hS fl_X2_15 rfl rfl rfl dX2_parseKeyword_32 ?_
    refine lv_aload_n hx hb dX2_parseKeyword_35 rfl (lv_at hl 0 rfl) ?_
    refine r_gR C hS fl_X2_15 rfl rfl rfl dX2_parseKeyword_36 ?_
    obtain ⟨⟨r_8, M_9⟩, hq_10, h⟩ := ob h
    try dsimp only at h
    refine r_thenI hS (r_runV C hS hl.1 cv_X2_56 rfl (c_X8_at l G F  M_5  _ hq_10) ⟨by decide, by decide⟩ rfl rfl (Nat.le_of_ble_eq_true rfl) ⟨Nat.zero_le _, Nat.zero_le _⟩ dX2_parseKeyword_39) (fun H locs hS => ?_)
    refine lv_aload_n hx hb dX2_parseKeyword_42 rfl (lv_at hl 1 rfl) ?_
    obtain ⟨⟨r_11, M_12⟩, hq_13, h⟩ := ob h
    try dsimp only at h
    refine r_thenI hS (r_runK C hS hl.1 cs_X2_134 k1 (c_J0_length_8abf5 l G F w1 M_9 k1 _ hq_13) ⟨by decide, by decide⟩ rfl rfl (Nat.le_of_ble_eq_true rfl) ⟨Nat.zero_le _, Nat.zero_le _⟩ dX2_parseKeyword_43) (fun H locs hS => ?_)
    refine lv_iadd hx hb dX2_parseKeyword_46 ?_
    obtain ⟨⟨_r_14, M_15⟩, hq_16, h⟩ := ob h
    try dsimp only at h
    refine r_thenV hS (r_runV C hS hl.1 cv_X2_31 rfl (c_X8_moveTo l G F (r_8 + r_11) M_12  _ hq_16) ⟨by decide, by decide⟩ rfl rfl (Nat.le_of_ble_eq_true rfl) ⟨Nat.zero_le _, Nat.zero_le _⟩ dX2_parseKeyword_47) (fun H locs hS => ?_)
    refine lv_iconst (v := 1) hx hb dX2_parseKeyword_50 (by decide) ?_
    exact r_zret C hS hr hlk h dX2_parseKeyword_51
  · replace h := ifp c_7 h
    refine lv_aload_n hx hb dX2_parseKeyword_18 rfl (lv_at hl 0 rfl) ?_
    refine lv_iconst (v := 1) hx hb dX2_parseKeyword_19 (by decide) ?_
    refine lv_aload_n hx hb dX2_parseKeyword_20 rfl (lv_at hl 0 rfl) ?_
    refine r_gR C hS fl_X2_15 rfl rfl rfl dX2_parseKeyword_21 ?_
    obtain ⟨⟨r_17, M_18⟩, hq_19, h⟩ := ob h
    try dsimp only at h
    refine r_thenI hS (r_runV C hS hl.1 cv_X2_56 rfl (c_X8_at l G F  M_5  _ hq_19) ⟨by decide, by decide⟩ rfl rfl (Nat.le_of_ble_eq_true rfl) ⟨Nat.zero_le _, Nat.zero_le _⟩ dX2_parseKeyword_24) (fun H locs hS => ?_)
    obtain ⟨⟨r_20, M_21⟩, hq_22, h⟩ := ob h
    try dsimp only at h
    refine r_thenI hS (r_runV C hS hl.1 cv_X2_59 rfl (c_X2_fail l G F 1 r_17 M_18  _ hq_22) ⟨by decide, by decide⟩ rfl rfl (Nat.le_of_ble_eq_true rfl) ⟨Nat.zero_le _, Nat.zero_le _⟩ dX2_parseKeyword_27) (fun H locs hS => ?_)
    exact r_zret C hS hr hlk h dX2_parseKeyword_30
def E_Gra_parseNumber_49 (G : Gl) (p : Program) (l : Launch) (e : Env) (s : State) (m : MethodId) (args : Array Value) (below : List Frame) (meth : Method) (c : Code) (Q : State → Prop) (x1 : Int32) (x2 : Int32) (x3 : Int32) (x4 : Int32) : Nat → (Int32 × Int32 × zM) → Prop := fun k (x5, x6, M) => match k with
  | 0 => ∀ (H : Heap) (locs : List Loc) (ls : Array Slot), St G M s H locs → lv_has ls 7 [(0, .ref (G.1 + 12)), (1, .int x1), (2, .int x2), (3, .int x3), (4, .int x4), (5, .int x5), (6, .int x6)] → W p l e (rmM 1 23) s m args below meth c H locs 0 0 Q (F0 m 49 ls [])
  | 1 => ∀ (H : Heap) (locs : List Loc) (ls : Array Slot), St G M s H locs → lv_has ls 7 [(0, .ref (G.1 + 12)), (1, .int x1), (2, .int x2), (3, .int x3), (4, .int x4), (5, .int x5)] → W p l e (rmM 1 23) s m args below meth c H locs 0 0 Q (F0 m 90 ls [])
  | _ => True
set_option maxHeartbeats 4000000 in
set_option maxRecDepth 100000 in
theorem w_Gra_parseNumber_B49 {G : Gl} {p : Program} {l : Launch} {e : Env} {s : State} {m : MethodId} {args : Array Value} {below : List Frame} {meth : Method} {c : Code} {Q : State → Prop} (C : Cx G cX2_parseNumber 7 RX2 p s m args c) (x1 : Int32) (x2 : Int32) (x3 : Int32) (x4 : Int32) (F : Nat) : ∀ (σ : (Int32 × Int32 × zM)) (q : Nat × (Int32 × Int32 × zM)), Gra_parseNumber_B49 F x1 x2 x3 x4 σ = some q → (E_Gra_parseNumber_49 G p l e s m args below meth c Q x1 x2 x3 x4) q.1 q.2 → (E_Gra_parseNumber_49 G p l e s m args below meth c Q x1 x2 x3 x4) 0 σ := by
  intro (x5, x6, M) q h hE H locs ls hS hl
  obtain ⟨hx, hb, -⟩ := id C
  unfold Gra_parseNumber_B49 at h
  try dsimp only at h
  refine lv_iload hx hb dX2_parseNumber_49 (lv_at hl 6 rfl) ?_
  refine lv_iload hx hb dX2_parseNumber_51 (lv_at hl 4 rfl) ?_
  refine lv_icmp_ge (tgt := 90) hx hb dX2_parseNumber_53 (by decide) (fun c_11 => ?_) (fun c_11 => ?_)
  · replace h := ifp c_11 h
    obtain rfl := Option.some.inj h
    exact hE _ _ _ hS (lv_sub hl [0, 1, 2, 3, 4, 5] rfl)
  · replace h := ifn c_11 h
    refine lv_iload hx hb dX2_parseNumber_56 (lv_at hl 6 rfl) ?_
    refine lv_iload_n hx hb dX2_parseNumber_58 rfl (lv_at hl 3 rfl) ?_
    refine lv_iconst (v := 3) hx hb dX2_parseNumber_59 (by decide) ?_
    refine lv_iadd hx hb dX2_parseNumber_60 ?_
    refine lv_icmp_ge (tgt := 90) hx hb dX2_parseNumber_61 (by decide) (fun c_12 => ?_) (fun c_12 => ?_)
    · replace h := ifp c_12 h
      obtain rfl := Option.some.inj h
      exact hE _ _ _ hS (lv_sub hl [0, 1, 2, 3, 4, 5] rfl)
    · replace h := ifn c_12 h
      refine lv_iload hx hb dX2_parseNumber_64 (lv_at hl 5 rfl) ?_
      refine lv_bipush (v := 10) hx hb dX2_parseNumber_66 (by decide) ?_
      refine lv_imul hx hb dX2_parseNumber_68 ?_
      refine lv_aload_n hx hb dX2_parseNumber_69 rfl (lv_at hl 0 rfl) ?_
      refine r_gR C hS fl_X2_15 rfl rfl rfl dX2_parseNumber_70 ?_
      refine lv_iload hx hb dX2_parseNumber_73 (lv_at hl 6 rfl) ?_
      obtain ⟨⟨r_13, M_14⟩, hq_15, h⟩ := ob h
      try dsimp only at h
      refine r_thenI hS (r_runV C hS hl.1 cv_X2_112 rfl (c_X8_byteAt l G F x6 M  _ hq_15) ⟨by decide, by decide⟩ rfl rfl (Nat.le_of_ble_eq_true rfl) ⟨Nat.zero_le _, Nat.zero_le _⟩ dX2_parseNumber_75) (fun H locs hS => ?_)
      refine lv_iadd hx hb dX2_parseNumber_78 ?_
      refine lv_bipush (v := 48) hx hb dX2_parseNumber_79 (by decide) ?_
      refine lv_isub hx hb dX2_parseNumber_81 ?_
      obtain ⟨x5_16, e_17, h⟩ := olt h
      refine r_nI e_17 ?_
      refine lv_istore (lv' := [(5, .int x5_16), (0, .ref (G.1 + 12)), (1, .int x1), (2, .int x2), (3, .int x3), (4, .int x4), (6, .int x6)]) hx hb dX2_parseNumber_82 hl (by decide) rfl (fun ls hl => ?_)
      obtain ⟨x6_18, e_19, h⟩ := olt h
      refine lv_iinc (v := x6_18) (lv' := [(6, .int x6_18), (5, .int x5_16), (0, .ref (G.1 + 12)), (1, .int x1), (2, .int x2), (3, .int x3), (4, .int x4)]) hx hb dX2_parseNumber_84 hl (k := 6) rfl (by rw [e_19]; rfl) (by decide) rfl (fun ls hl => ?_)
      refine lv_goto (tgt := 49) hx hb dX2_parseNumber_87 (by decide) ?_
      obtain rfl := Option.some.inj h
      exact hE _ _ _ hS (lv_sub hl [2, 3, 4, 5, 6, 1, 0] rfl)
set_option maxHeartbeats 4000000 in
set_option maxRecDepth 100000 in
theorem w_Gra_parseNumber_J110 {G : Gl} {p : Program} {l : Launch} {e : Env} {s : State} {m : MethodId} {args : Array Value} {below : List Frame} {meth : Method} {c : Code} (C : Cx G cX2_parseNumber 7 RX2 p s m args c) (hr : meth.sig.returnType = (some .int)) (hlk : meth.locks = false) (F : Nat) (x3 : Int32) (M : zM)  (q : Int32 × zM) (h : Gra_parseNumber_J110 F x3 M = some q) (H : Heap) (locs : List Loc) (ls : Array Slot) (hS : St G M s H locs) (hl : lv_has ls 7 [(0, .ref (G.1 + 12)), (3, .int x3)]) : W p l e (rmM 1 23) s m args below meth c H locs 0 0 (MQ below (PoI G q) args s 0 0 (gA G)) (F0 m 110 ls []) := by
  obtain ⟨hx, hb, -⟩ := id C
  unfold Gra_parseNumber_J110 at h
  refine lv_aload_n hx hb dX2_parseNumber_110 rfl (lv_at hl 0 rfl) ?_
  refine lv_iconst (v := 2) hx hb dX2_parseNumber_111 (by decide) ?_
  refine lv_iload_n hx hb dX2_parseNumber_112 rfl (lv_at hl 1 rfl) ?_
  obtain ⟨⟨r_26, M_27⟩, hq_28, h⟩ := ob h
  try dsimp only at h
  refine r_thenI hS (r_runV C hS hl.1 cv_X2_59 rfl (c_X2_fail l G F 2 x3 M  _ hq_28) ⟨by decide, by decide⟩ rfl rfl (Nat.le_of_ble_eq_true rfl) ⟨Nat.zero_le _, Nat.zero_le _⟩ dX2_parseNumber_113) (fun H locs hS => ?_)
  refine lv_pop hx hb dX2_parseNumber_116 rfl ?_
  refine lv_iconst (v := (-1)) hx hb dX2_parseNumber_117 (by decide) ?_
  exact r_iret C hS hr hlk h dX2_parseNumber_118
set_option maxHeartbeats 4000000 in
set_option maxRecDepth 100000 in
theorem w_Gra_parseNumber_J90 {G : Gl} {p : Program} {l : Launch} {e : Env} {s : State} {m : MethodId} {args : Array Value} {below : List Frame} {meth : Method} {c : Code} (C : Cx G cX2_parseNumber 7 RX2 p s m args c) (hr : meth.sig.returnType = (some .int)) (hlk : meth.locks = false) (F : Nat) (x1 : Int32) (x2 : Int32) (x3 : Int32) (x4 : Int32) (x5 : Int32) (M : zM)  (q : Int32 × zM) (h : Gra_parseNumber_J90 F x1 x2 x3 x4 x5 M = some q) (H : Heap) (locs : List Loc) (ls : Array Slot) (hS : St G M s H locs) (hl : lv_has ls 7 [(0, .ref (G.1 + 12)), (1, .int x1), (2, .int x2), (3, .int x3), (4, .int x4), (5, .int x5)]) : W p l e (rmM 1 23) s m args below meth c H locs 0 0 (MQ below (PoI G q) args s 0 0 (gA G)) (F0 m 90 ls []) := by
  obtain ⟨hx, hb, -⟩ := id C
  unfold Gra_parseNumber_J90 at h
  refine lv_iload hx hb dX2_parseNumber_90 (lv_at hl 4 rfl) ?_
  refine lv_iload_n hx hb dX2_parseNumber_92 rfl (lv_at hl 3 rfl) ?_
  refine lv_isub hx hb dX2_parseNumber_93 ?_
  refine lv_iconst (v := 3) hx hb dX2_parseNumber_94 (by decide) ?_
  refine lv_icmp_gt (tgt := 110) hx hb dX2_parseNumber_95 (by decide) (fun c_25 => ?_) (fun c_25 => ?_)
  · replace h := ifp c_25 h
    exact w_Gra_parseNumber_J110 C hr hlk F x3 M  q h _ _ _ hS (lv_sub hl [0, 3] rfl)
  · replace h := ifn c_25 h
    refine lv_iload hx hb dX2_parseNumber_98 (lv_at hl 5 rfl) ?_
    refine lv_iload_n hx hb dX2_parseNumber_100 rfl (lv_at hl 1 rfl) ?_
    refine lv_icmp_lt (tgt := 110) hx hb dX2_parseNumber_101 (by decide) (fun c_29 => ?_) (fun c_29 => ?_)
    · replace h := ifp c_29 h
      exact w_Gra_parseNumber_J110 C hr hlk F x3 M  q h _ _ _ hS (lv_sub hl [0, 3] rfl)
    · replace h := ifn c_29 h
      refine lv_iload hx hb dX2_parseNumber_104 (lv_at hl 5 rfl) ?_
      refine lv_iload_n hx hb dX2_parseNumber_106 rfl (lv_at hl 2 rfl) ?_
      refine lv_icmp_le (tgt := 119) hx hb dX2_parseNumber_107 (by decide) (fun c_30 => ?_) (fun c_30 => ?_)
      · replace h := ifp c_30 h
        refine lv_aload_n hx hb dX2_parseNumber_119 rfl (lv_at hl 0 rfl) ?_
        refine r_gR C hS fl_X2_15 rfl rfl rfl dX2_parseNumber_120 ?_
        refine lv_iload hx hb dX2_parseNumber_123 (lv_at hl 4 rfl) ?_
        obtain ⟨⟨_r_31, M_32⟩, hq_33, h⟩ := ob h
        try dsimp only at h
        refine r_thenV hS (r_runV C hS hl.1 cv_X2_31 rfl (c_X8_moveTo l G F x4 M  _ hq_33) ⟨by decide, by decide⟩ rfl rfl (Nat.le_of_ble_eq_true rfl) ⟨Nat.zero_le _, Nat.zero_le _⟩ dX2_parseNumber_125) (fun H locs hS => ?_)
        refine lv_iload hx hb dX2_parseNumber_128 (lv_at hl 5 rfl) ?_
        exact r_iret C hS hr hlk h dX2_parseNumber_130
      · replace h := ifn c_30 h
        exact w_Gra_parseNumber_J110 C hr hlk F x3 M  q h _ _ _ hS (lv_sub hl [0, 3] rfl)
set_option maxHeartbeats 4000000 in
set_option maxRecDepth 100000 in
theorem c_X2_parseNumber (l : Launch) (G : Gl) (F : Nat) (x1 : Int32) (x2 : Int32) (M : zM)  (q : Int32 × zM) (h : Gra_parseNumber F x1 x2 M = some q) : Met l yX2_parseNumber (wsM yX2_parseNumber cX2_parseNumber 7 (some .int)) (rmM 1 23) (Pre G M [.ref (G.1 + 12), .int x1, .int x2]) (PoI G q) 0 0 (gA G) := by
  refine r_met (own := RX2) rfl (by decide) (Nat.le_of_ble_eq_true rfl) ?_
  intro p e s m below meth c ls C hr hlk hS hl
  have hl : lv_has ls 7 [(0, .ref (G.1 + 12)), (1, .int x1), (2, .int x2)] := hl
  obtain ⟨hx, hb, -⟩ := id C
  unfold Gra_parseNumber at h
  refine lv_aload_n hx hb dX2_parseNumber_0 rfl (lv_at hl 0 rfl) ?_
  refine r_gR C hS fl_X2_15 rfl rfl rfl dX2_parseNumber_1 ?_
  obtain ⟨⟨_r_1, M_2⟩, hq_3, h⟩ := ob h
  try dsimp only at h
  refine r_thenV hS (r_runV C hS hl.1 cv_X2_37 rfl (c_X8_skipBlanks l G F  M  _ hq_3) ⟨by decide, by decide⟩ rfl rfl (Nat.le_of_ble_eq_true rfl) ⟨Nat.zero_le _, Nat.zero_le _⟩ dX2_parseNumber_4) (fun H locs hS => ?_)
  refine lv_aload_n hx hb dX2_parseNumber_7 rfl (lv_at hl 0 rfl) ?_
  refine r_gR C hS fl_X2_15 rfl rfl rfl dX2_parseNumber_8 ?_
  obtain ⟨⟨r_4, M_5⟩, hq_6, h⟩ := ob h
  try dsimp only at h
  refine r_thenI hS (r_runV C hS hl.1 cv_X2_56 rfl (c_X8_at l G F  M_2  _ hq_6) ⟨by decide, by decide⟩ rfl rfl (Nat.le_of_ble_eq_true rfl) ⟨Nat.zero_le _, Nat.zero_le _⟩ dX2_parseNumber_11) (fun H locs hS => ?_)
  refine lv_istore_n (lv' := [(3, .int r_4), (0, .ref (G.1 + 12)), (1, .int x1), (2, .int x2)]) hx hb dX2_parseNumber_14 rfl hl (by decide) rfl (fun ls hl => ?_)
  refine lv_aload_n hx hb dX2_parseNumber_15 rfl (lv_at hl 1 rfl) ?_
  refine r_gR C hS fl_X2_15 rfl rfl rfl dX2_parseNumber_16 ?_
  refine lv_bipush (v := 48) hx hb dX2_parseNumber_19 (by decide) ?_
  refine lv_bipush (v := 57) hx hb dX2_parseNumber_21 (by decide) ?_
  obtain ⟨⟨r_7, M_8⟩, hq_9, h⟩ := ob h
  try dsimp only at h
  refine r_thenI hS (r_runV C hS hl.1 cv_X2_120 rfl (c_X8_endOf l G F 48 57 M_5  _ hq_9) ⟨by decide, by decide⟩ rfl rfl (Nat.le_of_ble_eq_true rfl) ⟨Nat.zero_le _, Nat.zero_le _⟩ dX2_parseNumber_23) (fun H locs hS => ?_)
  refine lv_istore (lv' := [(4, .int r_7), (3, .int r_4), (0, .ref (G.1 + 12)), (1, .int x1), (2, .int x2)]) hx hb dX2_parseNumber_26 hl (by decide) rfl (fun ls hl => ?_)
  refine lv_iload hx hb dX2_parseNumber_28 (lv_at hl 0 rfl) ?_
  refine lv_iload_n hx hb dX2_parseNumber_30 rfl (lv_at hl 1 rfl) ?_
  refine lv_icmp_ne (tgt := 43) hx hb dX2_parseNumber_31 (by decide) (fun c_10 => ?_) (fun c_10 => ?_)
  · replace h := ifn c_10 h
    refine lv_iconst (v := 0) hx hb dX2_parseNumber_43 (by decide) ?_
    refine lv_istore (lv' := [(5, .int 0), (4, .int r_7), (3, .int r_4), (0, .ref (G.1 + 12)), (1, .int x1), (2, .int x2)]) hx hb dX2_parseNumber_44 hl (by decide) rfl (fun ls hl => ?_)
    refine lv_iload_n hx hb dX2_parseNumber_46 rfl (lv_at hl 2 rfl) ?_
    refine lv_istore (lv' := [(6, .int r_4), (5, .int 0), (4, .int r_7), (3, .int r_4), (0, .ref (G.1 + 12)), (1, .int x1), (2, .int x2)]) hx hb dX2_parseNumber_47 hl (by decide) rfl (fun ls hl => ?_)
    obtain ⟨⟨k_23, x5_20, x6_21, M_22⟩, hq_24, h⟩ := ob h
    try dsimp only at h
    refine loopW (E := (E_Gra_parseNumber_49 G p l e s m _ below meth c _ x1 x2 r_4 r_7)) (w_Gra_parseNumber_B49 C x1 x2 r_4 r_7 F) F _ _ hq_24 ?_ _ _ _ hS (lv_sub hl [4, 5, 6, 3, 2, 1, 0] rfl)
    by_cases ek_34 : k_23 = 1
    · replace h := ifp ek_34 h
      subst ek_34
      intro H locs ls hS hl
      exact w_Gra_parseNumber_J90 C hr hlk F x1 x2 r_4 r_7 x5_20 M_22  q h _ _ _ hS (lv_sub hl [0, 1, 2, 3, 4, 5] rfl)
    · replace h := ifn ek_34 h
      cases h
  · replace h := ifp c_10 h
    refine lv_aload_n hx hb dX2_parseNumber_34 rfl (lv_at hl 2 rfl) ?_
    refine lv_iconst (v := 1) hx hb dX2_parseNumber_35 (by decide) ?_
    refine lv_iload_n hx hb dX2_parseNumber_36 rfl (lv_at hl 1 rfl) ?_
    obtain ⟨⟨r_35, M_36⟩, hq_37, h⟩ := ob h
    try dsimp only at h
    refine r_thenI hS (r_runV C hS hl.1 cv_X2_59 rfl (c_X2_fail l G F 1 r_4 M_8  _ hq_37) ⟨by decide, by decide⟩ rfl rfl (Nat.le_of_ble_eq_true rfl) ⟨Nat.zero_le _, Nat.zero_le _⟩ dX2_parseNumber_37) (fun H locs hS => ?_)
    refine lv_pop hx hb dX2_parseNumber_40 rfl ?_
    refine lv_iconst (v := (-1)) hx hb dX2_parseNumber_41 (by decide) ?_
    exact r_iret C hS hr hlk h dX2_parseNumber_42
set_option maxHeartbeats 4000000 in
set_option maxRecDepth 100000 in
theorem c_X3_signOf (l : Launch) (G : Gl) (F : Nat) (x0 : Int32) (M : zM)  (q : Int64 × zM) (h : Lin_signOf F x0 M = some q) : Met l yX3_signOf (wsM yX3_signOf cX3_signOf 1 (some .long)) (rmM 0 0) (Pre G M [.int x0]) (PoL G q) 0 0 (gA G) := by
  refine r_met (own := RX3) rfl (by decide) (Nat.le_of_ble_eq_true rfl) ?_
  intro p e s m below meth c ls C hr hlk hS hl
  have hl : lv_has ls 1 [(0, .int x0)] := hl
  obtain ⟨hx, hb, -⟩ := id C
  unfold Lin_signOf at h
  refine lv_iload_n hx hb dX3_signOf_0 rfl (lv_at hl 0 rfl) ?_
  refine lv_bipush (v := 32) hx hb dX3_signOf_1 (by decide) ?_
  refine lv_icmp_ne (tgt := 10) hx hb dX3_signOf_3 (by decide) (fun c_1 => ?_) (fun c_1 => ?_)
  · replace h := ifn c_1 h
    refine lv_iload_n hx hb dX3_signOf_10 rfl (lv_at hl 0 rfl) ?_
    refine lv_bipush (v := 95) hx hb dX3_signOf_11 (by decide) ?_
    refine lv_isub hx hb dX3_signOf_13 ?_
    refine lv_i2l (v := (x0 - 95).toInt64) hx hb dX3_signOf_14 rfl ?_
    refine lv_bipush (v := 55) hx hb dX3_signOf_15 (by decide) ?_
    refine lv_lshl (v := sl ((x0 - 95).toInt64) 55) hx hb dX3_signOf_17 rfl ?_
    exact r_lret C hS hr hlk h dX3_signOf_18
  · replace h := ifp c_1 h
    refine lv_iconst (v := 1) hx hb dX3_signOf_6 (by decide) ?_
    refine lv_goto (tgt := 14) hx hb dX3_signOf_7 (by decide) ?_
    refine lv_i2l (v := (1 : Int32).toInt64) hx hb dX3_signOf_14 rfl ?_
    refine lv_bipush (v := 55) hx hb dX3_signOf_15 (by decide) ?_
    refine lv_lshl (v := sl ((1 : Int32).toInt64) 55) hx hb dX3_signOf_17 rfl ?_
    exact r_lret C hS hr hlk h dX3_signOf_18
def E_Gra_signsOf_5 (G : Gl) (p : Program) (l : Launch) (e : Env) (s : State) (m : MethodId) (args : Array Value) (below : List Frame) (meth : Method) (c : Code) (Q : State → Prop) (x1 : Int32) (x2 : Int32) : Nat → (Int64 × Int32 × zM) → Prop := fun k (x3, x5, M) => match k with
  | 0 => ∀ (H : Heap) (locs : List Loc) (ls : Array Slot), St G M s H locs → lv_has ls 6 [(0, .ref (G.1 + 12)), (1, .int x1), (2, .int x2), (3, .long x3), (5, .int x5)] → W p l e (rmM 1 21) s m args below meth c H locs 0 0 Q (F0 m 5 ls [])
  | 1 => ∀ (H : Heap) (locs : List Loc) (ls : Array Slot), St G M s H locs → lv_has ls 6 [(3, .long x3)] → W p l e (rmM 1 21) s m args below meth c H locs 0 0 Q (F0 m 39 ls [])
  | _ => True
set_option maxHeartbeats 4000000 in
set_option maxRecDepth 100000 in
theorem w_Gra_signsOf_B5 {G : Gl} {p : Program} {l : Launch} {e : Env} {s : State} {m : MethodId} {args : Array Value} {below : List Frame} {meth : Method} {c : Code} {Q : State → Prop} (C : Cx G cX2_signsOf 6 RX2 p s m args c) (x1 : Int32) (x2 : Int32) (F : Nat) : ∀ (σ : (Int64 × Int32 × zM)) (q : Nat × (Int64 × Int32 × zM)), Gra_signsOf_B5 F x1 x2 σ = some q → (E_Gra_signsOf_5 G p l e s m args below meth c Q x1 x2) q.1 q.2 → (E_Gra_signsOf_5 G p l e s m args below meth c Q x1 x2) 0 σ := by
  intro (x3, x5, M) q h hE H locs ls hS hl
  obtain ⟨hx, hb, -⟩ := id C
  unfold Gra_signsOf_B5 at h
  try dsimp only at h
  refine lv_iload hx hb dX2_signsOf_5 (lv_at hl 4 rfl) ?_
  refine lv_iload_n hx hb dX2_signsOf_7 rfl (lv_at hl 2 rfl) ?_
  refine lv_icmp_ge (tgt := 39) hx hb dX2_signsOf_8 (by decide) (fun c_1 => ?_) (fun c_1 => ?_)
  · replace h := ifp c_1 h
    obtain rfl := Option.some.inj h
    exact hE _ _ _ hS (lv_sub hl [3] rfl)
  · replace h := ifn c_1 h
    refine lv_lload_n hx hb dX2_signsOf_11 rfl (lv_at hl 3 rfl) ?_
    refine lv_aload_n hx hb dX2_signsOf_12 rfl (lv_at hl 0 rfl) ?_
    refine r_gR C hS fl_X2_15 rfl rfl rfl dX2_signsOf_13 ?_
    refine lv_iload hx hb dX2_signsOf_16 (lv_at hl 4 rfl) ?_
    obtain ⟨⟨r_2, M_3⟩, hq_4, h⟩ := ob h
    try dsimp only at h
    refine r_thenI hS (r_runV C hS hl.1 cv_X2_112 rfl (c_X8_byteAt l G F x5 M  _ hq_4) ⟨by decide, by decide⟩ rfl rfl (Nat.le_of_ble_eq_true rfl) ⟨Nat.zero_le _, Nat.zero_le _⟩ dX2_signsOf_18) (fun H locs hS => ?_)
    obtain ⟨⟨r_5, M_6⟩, hq_7, h⟩ := ob h
    try dsimp only at h
    refine r_thenL hS (r_runS C hS hl.1 cs_X2_128 (c_X3_signOf l G F r_2 M_3  _ hq_7) ⟨by decide, by decide⟩ rfl rfl (Nat.le_of_ble_eq_true rfl) ⟨Nat.zero_le _, Nat.zero_le _⟩ dX2_signsOf_21) (fun H locs hS => ?_)
    refine lv_iconst (v := 5) hx hb dX2_signsOf_24 (by decide) ?_
    refine lv_iload hx hb dX2_signsOf_25 (lv_at hl 4 rfl) ?_
    refine lv_iload_n hx hb dX2_signsOf_27 rfl (lv_at hl 1 rfl) ?_
    refine lv_isub hx hb dX2_signsOf_28 ?_
    refine lv_imul hx hb dX2_signsOf_29 ?_
    refine lv_lushr (v := ur r_5 (5 * (x5 - x1))) hx hb dX2_signsOf_30 rfl ?_
    refine lv_lor hx hb dX2_signsOf_31 ?_
    obtain ⟨x3_8, e_9, h⟩ := olt h
    refine r_nL e_9 ?_
    refine lv_lstore_n (lv' := [(3, .long x3_8), (0, .ref (G.1 + 12)), (1, .int x1), (2, .int x2), (5, .int x5)]) hx hb dX2_signsOf_32 rfl hl (by decide) rfl (fun ls hl => ?_)
    obtain ⟨x5_10, e_11, h⟩ := olt h
    refine lv_iinc (v := x5_10) (lv' := [(5, .int x5_10), (3, .long x3_8), (0, .ref (G.1 + 12)), (1, .int x1), (2, .int x2)]) hx hb dX2_signsOf_33 hl (k := 4) rfl (by rw [e_11]; rfl) (by decide) rfl (fun ls hl => ?_)
    refine lv_goto (tgt := 5) hx hb dX2_signsOf_36 (by decide) ?_
    obtain rfl := Option.some.inj h
    exact hE _ _ _ hS (lv_sub hl [2, 3, 4, 1, 0] rfl)
set_option maxHeartbeats 4000000 in
set_option maxRecDepth 100000 in
theorem c_X2_signsOf (l : Launch) (G : Gl) (F : Nat) (x1 : Int32) (x2 : Int32) (M : zM)  (q : Int64 × zM) (h : Gra_signsOf F x1 x2 M = some q) : Met l yX2_signsOf (wsM yX2_signsOf cX2_signsOf 6 (some .long)) (rmM 1 21) (Pre G M [.ref (G.1 + 12), .int x1, .int x2]) (PoL G q) 0 0 (gA G) := by
  refine r_met (own := RX2) rfl (by decide) (Nat.le_of_ble_eq_true rfl) ?_
  intro p e s m below meth c ls C hr hlk hS hl
  have hl : lv_has ls 6 [(0, .ref (G.1 + 12)), (1, .int x1), (2, .int x2)] := hl
  obtain ⟨hx, hb, -⟩ := id C
  unfold Gra_signsOf at h
  refine lv_lconst (v := 0) hx hb dX2_signsOf_0 (by decide) ?_
  refine lv_lstore_n (lv' := [(3, .long 0), (0, .ref (G.1 + 12)), (1, .int x1), (2, .int x2)]) hx hb dX2_signsOf_1 rfl hl (by decide) rfl (fun ls hl => ?_)
  refine lv_iload_n hx hb dX2_signsOf_2 rfl (lv_at hl 2 rfl) ?_
  refine lv_istore (lv' := [(5, .int x1), (3, .long 0), (0, .ref (G.1 + 12)), (1, .int x1), (2, .int x2)]) hx hb dX2_signsOf_3 hl (by decide) rfl (fun ls hl => ?_)
  obtain ⟨⟨k_15, x3_12, x5_13, M_14⟩, hq_16, h⟩ := ob h
  try dsimp only at h
  refine loopW (E := (E_Gra_signsOf_5 G p l e s m _ below meth c _ x1 x2)) (w_Gra_signsOf_B5 C x1 x2 F) F _ _ hq_16 ?_ _ _ _ hS (lv_sub hl [2, 3, 4, 1, 0] rfl)
  by_cases ek_17 : k_15 = 1
  · replace h := ifp ek_17 h
    subst ek_17
    intro H locs ls hS hl
    refine lv_lload_n hx hb dX2_signsOf_39 rfl (lv_at hl 0 rfl) ?_
    exact r_lret C hS hr hlk h dX2_signsOf_40
  · replace h := ifn ek_17 h
    cases h
set_option maxHeartbeats 4000000 in
set_option maxRecDepth 100000 in
theorem c_X2_parseLetters (l : Launch) (G : Gl) (F : Nat) (x1 : Int32) (M : zM)  (q : Int32 × zM) (h : Gra_parseLetters F x1 M = some q) : Met l yX2_parseLetters (wsM yX2_parseLetters cX2_parseLetters 4 (some .boolean)) (rmM 2 46) (Pre G M [.ref (G.1 + 12), .int x1]) (PoI G q) 0 0 (gA G) := by
  refine r_met (own := RX2) rfl (by decide) (Nat.le_of_ble_eq_true rfl) ?_
  intro p e s m below meth c ls C hr hlk hS hl
  have hl : lv_has ls 4 [(0, .ref (G.1 + 12)), (1, .int x1)] := hl
  obtain ⟨hx, hb, -⟩ := id C
  unfold Gra_parseLetters at h
  refine lv_aload_n hx hb dX2_parseLetters_0 rfl (lv_at hl 0 rfl) ?_
  refine r_gR C hS fl_X2_15 rfl rfl rfl dX2_parseLetters_1 ?_
  obtain ⟨⟨r_1, M_2⟩, hq_3, h⟩ := ob h
  try dsimp only at h
  refine r_thenI hS (r_runV C hS hl.1 cv_X2_56 rfl (c_X8_at l G F  M  _ hq_3) ⟨by decide, by decide⟩ rfl rfl (Nat.le_of_ble_eq_true rfl) ⟨Nat.zero_le _, Nat.zero_le _⟩ dX2_parseLetters_4) (fun H locs hS => ?_)
  refine lv_istore_n (lv' := [(2, .int r_1), (0, .ref (G.1 + 12)), (1, .int x1)]) hx hb dX2_parseLetters_7 rfl hl (by decide) rfl (fun ls hl => ?_)
  refine lv_aload_n hx hb dX2_parseLetters_8 rfl (lv_at hl 1 rfl) ?_
  refine r_gR C hS fl_X2_15 rfl rfl rfl dX2_parseLetters_9 ?_
  refine lv_bipush (v := 97) hx hb dX2_parseLetters_12 (by decide) ?_
  refine lv_bipush (v := 122) hx hb dX2_parseLetters_14 (by decide) ?_
  obtain ⟨⟨r_4, M_5⟩, hq_6, h⟩ := ob h
  try dsimp only at h
  refine r_thenI hS (r_runV C hS hl.1 cv_X2_120 rfl (c_X8_endOf l G F 97 122 M_2  _ hq_6) ⟨by decide, by decide⟩ rfl rfl (Nat.le_of_ble_eq_true rfl) ⟨Nat.zero_le _, Nat.zero_le _⟩ dX2_parseLetters_16) (fun H locs hS => ?_)
  refine lv_istore_n (lv' := [(3, .int r_4), (2, .int r_1), (0, .ref (G.1 + 12)), (1, .int x1)]) hx hb dX2_parseLetters_19 rfl hl (by decide) rfl (fun ls hl => ?_)
  refine lv_iload_n hx hb dX2_parseLetters_20 rfl (lv_at hl 0 rfl) ?_
  refine lv_iload_n hx hb dX2_parseLetters_21 rfl (lv_at hl 1 rfl) ?_
  refine lv_icmp_ne (tgt := 32) hx hb dX2_parseLetters_22 (by decide) (fun c_7 => ?_) (fun c_7 => ?_)
  · replace h := ifn c_7 h
    refine lv_iload_n hx hb dX2_parseLetters_32 rfl (lv_at hl 0 rfl) ?_
    refine lv_iload_n hx hb dX2_parseLetters_33 rfl (lv_at hl 1 rfl) ?_
    refine lv_isub hx hb dX2_parseLetters_34 ?_
    refine lv_bipush (v := 12) hx hb dX2_parseLetters_35 (by decide) ?_
    refine lv_icmp_le (tgt := 50) hx hb dX2_parseLetters_37 (by decide) (fun c_8 => ?_) (fun c_8 => ?_)
    · replace h := ifp c_8 h
      refine lv_aload_n hx hb dX2_parseLetters_50 rfl (lv_at hl 2 rfl) ?_
      refine r_gR C hS fl_X2_19 rfl rfl rfl dX2_parseLetters_51 ?_
      refine lv_iconst (v := 0) hx hb dX2_parseLetters_54 (by decide) ?_
      refine lv_iload_n hx hb dX2_parseLetters_55 rfl (lv_at hl 3 rfl) ?_
      refine lv_aload_n hx hb dX2_parseLetters_56 rfl (lv_at hl 2 rfl) ?_
      refine lv_iload_n hx hb dX2_parseLetters_57 rfl (lv_at hl 1 rfl) ?_
      refine lv_iload_n hx hb dX2_parseLetters_58 rfl (lv_at hl 0 rfl) ?_
      obtain ⟨⟨r_9, M_10⟩, hq_11, h⟩ := ob h
      try dsimp only at h
      refine r_thenL hS (r_runV C hS hl.1 cv_X2_124 rfl (c_X2_signsOf l G F r_1 r_4 M_5  _ hq_11) ⟨by decide, by decide⟩ rfl rfl (Nat.le_of_ble_eq_true rfl) ⟨Nat.zero_le _, Nat.zero_le _⟩ dX2_parseLetters_59) (fun H locs hS => ?_)
      refine lv_iload_n hx hb dX2_parseLetters_62 rfl (lv_at hl 0 rfl) ?_
      refine lv_iload_n hx hb dX2_parseLetters_63 rfl (lv_at hl 1 rfl) ?_
      refine lv_isub hx hb dX2_parseLetters_64 ?_
      obtain ⟨⟨_r_12, M_13⟩, hq_14, h⟩ := ob h
      try dsimp only at h
      refine r_thenV hS (r_runV C hS hl.1 cv_X2_116 rfl (c_X0_addPart l G F 0 x1 r_9 (r_4 - r_1) M_10  _ hq_14) ⟨by decide, by decide⟩ rfl rfl (Nat.le_of_ble_eq_true rfl) ⟨Nat.zero_le _, Nat.zero_le _⟩ dX2_parseLetters_65) (fun H locs hS => ?_)
      refine lv_aload_n hx hb dX2_parseLetters_68 rfl (lv_at hl 2 rfl) ?_
      refine r_gR C hS fl_X2_15 rfl rfl rfl dX2_parseLetters_69 ?_
      refine lv_iload_n hx hb dX2_parseLetters_72 rfl (lv_at hl 0 rfl) ?_
      obtain ⟨⟨_r_15, M_16⟩, hq_17, h⟩ := ob h
      try dsimp only at h
      refine r_thenV hS (r_runV C hS hl.1 cv_X2_31 rfl (c_X8_moveTo l G F r_4 M_13  _ hq_17) ⟨by decide, by decide⟩ rfl rfl (Nat.le_of_ble_eq_true rfl) ⟨Nat.zero_le _, Nat.zero_le _⟩ dX2_parseLetters_73) (fun H locs hS => ?_)
      refine lv_iconst (v := 1) hx hb dX2_parseLetters_76 (by decide) ?_
      exact r_zret C hS hr hlk h dX2_parseLetters_77
    · replace h := ifn c_8 h
      refine lv_aload_n hx hb dX2_parseLetters_40 rfl (lv_at hl 2 rfl) ?_
      refine lv_iconst (v := 4) hx hb dX2_parseLetters_41 (by decide) ?_
      refine lv_iload_n hx hb dX2_parseLetters_42 rfl (lv_at hl 1 rfl) ?_
      refine lv_bipush (v := 12) hx hb dX2_parseLetters_43 (by decide) ?_
      refine lv_iadd hx hb dX2_parseLetters_45 ?_
      obtain ⟨⟨r_18, M_19⟩, hq_20, h⟩ := ob h
      try dsimp only at h
      refine r_thenI hS (r_runV C hS hl.1 cv_X2_59 rfl (c_X2_fail l G F 4 (r_1 + 12) M_5  _ hq_20) ⟨by decide, by decide⟩ rfl rfl (Nat.le_of_ble_eq_true rfl) ⟨Nat.zero_le _, Nat.zero_le _⟩ dX2_parseLetters_46) (fun H locs hS => ?_)
      exact r_zret C hS hr hlk h dX2_parseLetters_49
  · replace h := ifp c_7 h
    refine lv_aload_n hx hb dX2_parseLetters_25 rfl (lv_at hl 2 rfl) ?_
    refine lv_iconst (v := 1) hx hb dX2_parseLetters_26 (by decide) ?_
    refine lv_iload_n hx hb dX2_parseLetters_27 rfl (lv_at hl 1 rfl) ?_
    obtain ⟨⟨r_21, M_22⟩, hq_23, h⟩ := ob h
    try dsimp only at h
    refine r_thenI hS (r_runV C hS hl.1 cv_X2_59 rfl (c_X2_fail l G F 1 r_1 M_5  _ hq_23) ⟨by decide, by decide⟩ rfl rfl (Nat.le_of_ble_eq_true rfl) ⟨Nat.zero_le _, Nat.zero_le _⟩ dX2_parseLetters_28) (fun H locs hS => ?_)
    exact r_zret C hS hr hlk h dX2_parseLetters_31
set_option maxHeartbeats 4000000 in
set_option maxRecDepth 100000 in
theorem c_X2_parseSign (l : Launch) (G : Gl) (F : Nat) (x1 : Int32) (M : zM)  (q : Int32 × zM) (h : Gra_parseSign F x1 M = some q) : Met l yX2_parseSign (wsM yX2_parseSign cX2_parseSign 2 (some .boolean)) (rmM 2 41) (Pre G M [.ref (G.1 + 12), .int x1]) (PoI G q) 0 0 (gA G) := by
  refine r_met (own := RX2) rfl (by decide) (Nat.le_of_ble_eq_true rfl) ?_
  intro p e s m below meth c ls C hr hlk hS hl
  have hl : lv_has ls 2 [(0, .ref (G.1 + 12)), (1, .int x1)] := hl
  obtain ⟨hx, hb, -⟩ := id C
  unfold Gra_parseSign at h
  refine lv_aload_n hx hb dX2_parseSign_0 rfl (lv_at hl 0 rfl) ?_
  refine r_gR C hS fl_X2_15 rfl rfl rfl dX2_parseSign_1 ?_
  obtain ⟨⟨_r_1, M_2⟩, hq_3, h⟩ := ob h
  try dsimp only at h
  refine r_thenV hS (r_runV C hS hl.1 cv_X2_37 rfl (c_X8_skipBlanks l G F  M  _ hq_3) ⟨by decide, by decide⟩ rfl rfl (Nat.le_of_ble_eq_true rfl) ⟨Nat.zero_le _, Nat.zero_le _⟩ dX2_parseSign_4) (fun H locs hS => ?_)
  refine lv_aload_n hx hb dX2_parseSign_7 rfl (lv_at hl 0 rfl) ?_
  refine r_gR C hS fl_X2_15 rfl rfl rfl dX2_parseSign_8 ?_
  obtain ⟨⟨r_4, M_5⟩, hq_6, h⟩ := ob h
  try dsimp only at h
  refine r_thenI hS (r_runV C hS hl.1 cv_X2_40 rfl (c_X8_current l G F  M_2  _ hq_6) ⟨by decide, by decide⟩ rfl rfl (Nat.le_of_ble_eq_true rfl) ⟨Nat.zero_le _, Nat.zero_le _⟩ dX2_parseSign_11) (fun H locs hS => ?_)
  refine lv_iload_n hx hb dX2_parseSign_14 rfl (lv_at hl 1 rfl) ?_
  refine lv_icmp_eq (tgt := 31) hx hb dX2_parseSign_15 (by decide) (fun c_7 => ?_) (fun c_7 => ?_)
  · replace h := ifp c_7 h
    refine lv_aload_n hx hb dX2_parseSign_31 rfl (lv_at hl 0 rfl) ?_
    refine r_gR C hS fl_X2_15 rfl rfl rfl dX2_parseSign_32 ?_
    refine lv_aload_n hx hb dX2_parseSign_35 rfl (lv_at hl 0 rfl) ?_
    refine r_gR C hS fl_X2_15 rfl rfl rfl dX2_parseSign_36 ?_
    obtain ⟨⟨r_8, M_9⟩, hq_10, h⟩ := ob h
    try dsimp only at h
    refine r_thenI hS (r_runV C hS hl.1 cv_X2_56 rfl (c_X8_at l G F  M_5  _ hq_10) ⟨by decide, by decide⟩ rfl rfl (Nat.le_of_ble_eq_true rfl) ⟨Nat.zero_le _, Nat.zero_le _⟩ dX2_parseSign_39) (fun H locs hS => ?_)
    refine lv_iconst (v := 1) hx hb dX2_parseSign_42 (by decide) ?_
    refine lv_iadd hx hb dX2_parseSign_43 ?_
    obtain ⟨⟨_r_11, M_12⟩, hq_13, h⟩ := ob h
    try dsimp only at h
    refine r_thenV hS (r_runV C hS hl.1 cv_X2_31 rfl (c_X8_moveTo l G F (r_8 + 1) M_9  _ hq_13) ⟨by decide, by decide⟩ rfl rfl (Nat.le_of_ble_eq_true rfl) ⟨Nat.zero_le _, Nat.zero_le _⟩ dX2_parseSign_44) (fun H locs hS => ?_)
    refine lv_iconst (v := 1) hx hb dX2_parseSign_47 (by decide) ?_
    exact r_zret C hS hr hlk h dX2_parseSign_48
  · replace h := ifn c_7 h
    refine lv_aload_n hx hb dX2_parseSign_18 rfl (lv_at hl 0 rfl) ?_
    refine lv_iconst (v := 1) hx hb dX2_parseSign_19 (by decide) ?_
    refine lv_aload_n hx hb dX2_parseSign_20 rfl (lv_at hl 0 rfl) ?_
    refine r_gR C hS fl_X2_15 rfl rfl rfl dX2_parseSign_21 ?_
    obtain ⟨⟨r_14, M_15⟩, hq_16, h⟩ := ob h
    try dsimp only at h
    refine r_thenI hS (r_runV C hS hl.1 cv_X2_56 rfl (c_X8_at l G F  M_5  _ hq_16) ⟨by decide, by decide⟩ rfl rfl (Nat.le_of_ble_eq_true rfl) ⟨Nat.zero_le _, Nat.zero_le _⟩ dX2_parseSign_24) (fun H locs hS => ?_)
    obtain ⟨⟨r_17, M_18⟩, hq_19, h⟩ := ob h
    try dsimp only at h
    refine r_thenI hS (r_runV C hS hl.1 cv_X2_59 rfl (c_X2_fail l G F 1 r_14 M_15  _ hq_19) ⟨by decide, by decide⟩ rfl rfl (Nat.le_of_ble_eq_true rfl) ⟨Nat.zero_le _, Nat.zero_le _⟩ dX2_parseSign_27) (fun H locs hS => ?_)
    exact r_zret C hS hr hlk h dX2_parseSign_30
set_option maxHeartbeats 4000000 in
set_option maxRecDepth 100000 in
theorem c_X2_parseWord (l : Launch) (G : Gl) (F : Nat)  (M : zM)  (q : Int32 × zM) (h : Gra_parseWord F  M = some q) : Met l yX2_parseWord (wsM yX2_parseWord cX2_parseWord 3 (some .boolean)) (rmM 6 128) (Pre G M [.ref (G.1 + 12)]) (PoI G q) 0 0 (gA G) := by
  refine r_met (own := RX2) rfl (by decide) (Nat.le_of_ble_eq_true rfl) ?_
  intro p e s m below meth c ls C hr hlk hS hl
  have hl : lv_has ls 3 [(0, .ref (G.1 + 12))] := hl
  obtain ⟨hx, hb, -⟩ := id C
  unfold Gra_parseWord at h
  refine lv_aload_n hx hb dX2_parseWord_0 rfl (lv_at hl 0 rfl) ?_
  refine va_ldcS hx hb C.2.2.2.1 (C.2.2.2.2.2.2.2.2.2.2.1 0 (by decide)) dX2_parseWord_1 ?_
  obtain ⟨⟨r_1, M_2⟩, hq_3, h⟩ := ob h
  try dsimp only at h
  refine r_thenI hS (r_runV C hS hl.1 cv_X2_75 rfl (c_X2_parseKeyword l G F 0 M (by decide) _ hq_3) ⟨by decide, by decide⟩ rfl rfl (Nat.le_of_ble_eq_true rfl) ⟨Nat.zero_le _, Nat.zero_le _⟩ dX2_parseWord_3) (fun H locs hS => ?_)
  refine lv_if_ne (tgt := 11) hx hb dX2_parseWord_6 (by decide) (fun c_4 => ?_) (fun c_4 => ?_)
  · replace h := ifn c_4 h
    refine lv_aload_n hx hb dX2_parseWord_11 rfl (lv_at hl 0 rfl) ?_
    refine r_gR C hS fl_X2_15 rfl rfl rfl dX2_parseWord_12 ?_
    obtain ⟨⟨_r_5, M_6⟩, hq_7, h⟩ := ob h
    try dsimp only at h
    refine r_thenV hS (r_runV C hS hl.1 cv_X2_37 rfl (c_X8_skipBlanks l G F  M_2  _ hq_7) ⟨by decide, by decide⟩ rfl rfl (Nat.le_of_ble_eq_true rfl) ⟨Nat.zero_le _, Nat.zero_le _⟩ dX2_parseWord_15) (fun H locs hS => ?_)
    refine lv_aload_n hx hb dX2_parseWord_18 rfl (lv_at hl 0 rfl) ?_
    refine r_gR C hS fl_X2_15 rfl rfl rfl dX2_parseWord_19 ?_
    obtain ⟨⟨r_8, M_9⟩, hq_10, h⟩ := ob h
    try dsimp only at h
    refine r_thenI hS (r_runV C hS hl.1 cv_X2_56 rfl (c_X8_at l G F  M_6  _ hq_10) ⟨by decide, by decide⟩ rfl rfl (Nat.le_of_ble_eq_true rfl) ⟨Nat.zero_le _, Nat.zero_le _⟩ dX2_parseWord_22) (fun H locs hS => ?_)
    refine lv_istore_n (lv' := [(1, .int r_8), (0, .ref (G.1 + 12))]) hx hb dX2_parseWord_25 rfl hl (by decide) rfl (fun ls hl => ?_)
    refine lv_aload_n hx hb dX2_parseWord_26 rfl (lv_at hl 1 rfl) ?_
    refine lv_iconst (v := 0) hx hb dX2_parseWord_27 (by decide) ?_
    refine lv_sipush (v := 999) hx hb dX2_parseWord_28 (by decide) ?_
    obtain ⟨⟨r_11, M_12⟩, hq_13, h⟩ := ob h
    try dsimp only at h
    refine r_thenI hS (r_runV C hS hl.1 cv_X2_78 rfl (c_X2_parseNumber l G F 0 999 M_9  _ hq_13) ⟨by decide, by decide⟩ rfl rfl (Nat.le_of_ble_eq_true rfl) ⟨Nat.zero_le _, Nat.zero_le _⟩ dX2_parseWord_31) (fun H locs hS => ?_)
    refine lv_istore_n (lv' := [(2, .int r_11), (1, .int r_8), (0, .ref (G.1 + 12))]) hx hb dX2_parseWord_34 rfl hl (by decide) rfl (fun ls hl => ?_)
    refine lv_iload_n hx hb dX2_parseWord_35 rfl (lv_at hl 0 rfl) ?_
    refine lv_iconst (v := (-1)) hx hb dX2_parseWord_36 (by decide) ?_
    refine lv_icmp_ne (tgt := 42) hx hb dX2_parseWord_37 (by decide) (fun c_14 => ?_) (fun c_14 => ?_)
    · replace h := ifn c_14 h
      refine lv_aload_n hx hb dX2_parseWord_42 rfl (lv_at hl 2 rfl) ?_
      refine r_gR C hS fl_X2_19 rfl rfl rfl dX2_parseWord_43 ?_
      refine lv_iload_n hx hb dX2_parseWord_46 rfl (lv_at hl 0 rfl) ?_
      obtain ⟨⟨r_15, M_16⟩, hq_17, h⟩ := ob h
      try dsimp only at h
      refine r_thenI hS (r_runV C hS hl.1 cv_X2_82 rfl (c_X0_hasWord l G F r_11 M_12  _ hq_17) ⟨by decide, by decide⟩ rfl rfl (Nat.le_of_ble_eq_true rfl) ⟨Nat.zero_le _, Nat.zero_le _⟩ dX2_parseWord_47) (fun H locs hS => ?_)
      refine lv_if_eq (tgt := 60) hx hb dX2_parseWord_50 (by decide) (fun c_18 => ?_) (fun c_18 => ?_)
      · replace h := ifp c_18 h
        refine lv_aload_n hx hb dX2_parseWord_60 rfl (lv_at hl 2 rfl) ?_
        refine r_gR C hS fl_X2_19 rfl rfl rfl dX2_parseWord_61 ?_
        refine lv_iload_n hx hb dX2_parseWord_64 rfl (lv_at hl 0 rfl) ?_
        refine lv_iload_n hx hb dX2_parseWord_65 rfl (lv_at hl 0 rfl) ?_
        refine lv_iconst (v := 0) hx hb dX2_parseWord_66 (by decide) ?_
        obtain ⟨⟨_r_19, M_20⟩, hq_21, h⟩ := ob h
        try dsimp only at h
        refine r_thenV hS (r_runV C hS hl.1 cv_X2_86 rfl (c_X0_open l G F r_11 r_11 0 M_16  _ hq_21) ⟨by decide, by decide⟩ rfl rfl (Nat.le_of_ble_eq_true rfl) ⟨Nat.zero_le _, Nat.zero_le _⟩ dX2_parseWord_67) (fun H locs hS => ?_)
        refine lv_aload_n hx hb dX2_parseWord_70 rfl (lv_at hl 2 rfl) ?_
        refine r_gR C hS fl_X2_15 rfl rfl rfl dX2_parseWord_71 ?_
        obtain ⟨⟨_r_22, M_23⟩, hq_24, h⟩ := ob h
        try dsimp only at h
        refine r_thenV hS (r_runV C hS hl.1 cv_X2_37 rfl (c_X8_skipBlanks l G F  M_20  _ hq_24) ⟨by decide, by decide⟩ rfl rfl (Nat.le_of_ble_eq_true rfl) ⟨Nat.zero_le _, Nat.zero_le _⟩ dX2_parseWord_74) (fun H locs hS => ?_)
        refine lv_aload_n hx hb dX2_parseWord_77 rfl (lv_at hl 2 rfl) ?_
        refine lv_iconst (v := 0) hx hb dX2_parseWord_78 (by decide) ?_
        obtain ⟨⟨r_25, M_26⟩, hq_27, h⟩ := ob h
        try dsimp only at h
        refine r_thenI hS (r_runV C hS hl.1 cv_X2_90 rfl (c_X2_parseLetters l G F 0 M_23  _ hq_27) ⟨by decide, by decide⟩ rfl rfl (Nat.le_of_ble_eq_true rfl) ⟨Nat.zero_le _, Nat.zero_le _⟩ dX2_parseWord_79) (fun H locs hS => ?_)
        refine lv_if_eq (tgt := 98) hx hb dX2_parseWord_82 (by decide) (fun c_28 => ?_) (fun c_28 => ?_)
        · replace h := ifp c_28 h
          refine lv_iconst (v := 0) hx hb dX2_parseWord_98 (by decide) ?_
          exact r_zret C hS hr hlk h dX2_parseWord_99
        · replace h := ifn c_28 h
          refine lv_aload_n hx hb dX2_parseWord_85 rfl (lv_at hl 2 rfl) ?_
          refine lv_bipush (v := 59) hx hb dX2_parseWord_86 (by decide) ?_
          obtain ⟨⟨r_29, M_30⟩, hq_31, h⟩ := ob h
          try dsimp only at h
          refine r_thenI hS (r_runV C hS hl.1 cv_X2_94 rfl (c_X2_parseSign l G F 59 M_26  _ hq_31) ⟨by decide, by decide⟩ rfl rfl (Nat.le_of_ble_eq_true rfl) ⟨Nat.zero_le _, Nat.zero_le _⟩ dX2_parseWord_88) (fun H locs hS => ?_)
          refine lv_if_eq (tgt := 98) hx hb dX2_parseWord_91 (by decide) (fun c_32 => ?_) (fun c_32 => ?_)
          · replace h := ifp c_32 h
            refine lv_iconst (v := 0) hx hb dX2_parseWord_98 (by decide) ?_
            exact r_zret C hS hr hlk h dX2_parseWord_99
          · replace h := ifn c_32 h
            refine lv_iconst (v := 1) hx hb dX2_parseWord_94 (by decide) ?_
            refine lv_goto (tgt := 99) hx hb dX2_parseWord_95 (by decide) ?_
            exact r_zret C hS hr hlk h dX2_parseWord_99
      · replace h := ifn c_18 h
        refine lv_aload_n hx hb dX2_parseWord_53 rfl (lv_at hl 2 rfl) ?_
        refine lv_iconst (v := 3) hx hb dX2_parseWord_54 (by decide) ?_
        refine lv_iload_n hx hb dX2_parseWord_55 rfl (lv_at hl 1 rfl) ?_
        obtain ⟨⟨r_33, M_34⟩, hq_35, h⟩ := ob h
        try dsimp only at h
        refine r_thenI hS (r_runV C hS hl.1 cv_X2_59 rfl (c_X2_fail l G F 3 r_8 M_16  _ hq_35) ⟨by decide, by decide⟩ rfl rfl (Nat.le_of_ble_eq_true rfl) ⟨Nat.zero_le _, Nat.zero_le _⟩ dX2_parseWord_56) (fun H locs hS => ?_)
        exact r_zret C hS hr hlk h dX2_parseWord_59
    · replace h := ifp c_14 h
      refine lv_iconst (v := 0) hx hb dX2_parseWord_40 (by decide) ?_
      exact r_zret C hS hr hlk h dX2_parseWord_41
  · replace h := ifp c_4 h
    refine lv_iconst (v := 0) hx hb dX2_parseWord_9 (by decide) ?_
    exact r_zret C hS hr hlk h dX2_parseWord_10
set_option maxHeartbeats 4000000 in
set_option maxRecDepth 100000 in
theorem c_X2_parseHead (l : Launch) (G : Gl) (F : Nat)  (M : zM)  (q : Int32 × zM) (h : Gra_parseHead F  M = some q) : Met l yX2_parseHead (wsM yX2_parseHead cX2_parseHead 4 (some .boolean)) (rmM 6 128) (Pre G M [.ref (G.1 + 12)]) (PoI G q) 0 0 (gA G) := by
  refine r_met (own := RX2) rfl (by decide) (Nat.le_of_ble_eq_true rfl) ?_
  intro p e s m below meth c ls C hr hlk hS hl
  have hl : lv_has ls 4 [(0, .ref (G.1 + 12))] := hl
  obtain ⟨hx, hb, -⟩ := id C
  unfold Gra_parseHead at h
  refine lv_aload_n hx hb dX2_parseHead_0 rfl (lv_at hl 0 rfl) ?_
  refine va_ldcS hx hb C.2.2.2.1 (C.2.2.2.2.2.2.2.2.2.2.1 1 (by decide)) dX2_parseHead_1 ?_
  obtain ⟨⟨r_1, M_2⟩, hq_3, h⟩ := ob h
  try dsimp only at h
  refine r_thenI hS (r_runV C hS hl.1 cv_X2_75 rfl (c_X2_parseKeyword l G F 1 M (by decide) _ hq_3) ⟨by decide, by decide⟩ rfl rfl (Nat.le_of_ble_eq_true rfl) ⟨Nat.zero_le _, Nat.zero_le _⟩ dX2_parseHead_3) (fun H locs hS => ?_)
  refine lv_if_ne (tgt := 11) hx hb dX2_parseHead_6 (by decide) (fun c_4 => ?_) (fun c_4 => ?_)
  · replace h := ifn c_4 h
    refine lv_aload_n hx hb dX2_parseHead_11 rfl (lv_at hl 0 rfl) ?_
    refine lv_iconst (v := 0) hx hb dX2_parseHead_12 (by decide) ?_
    refine lv_sipush (v := 999) hx hb dX2_parseHead_13 (by decide) ?_
    obtain ⟨⟨r_5, M_6⟩, hq_7, h⟩ := ob h
    try dsimp only at h
    refine r_thenI hS (r_runV C hS hl.1 cv_X2_78 rfl (c_X2_parseNumber l G F 0 999 M_2  _ hq_7) ⟨by decide, by decide⟩ rfl rfl (Nat.le_of_ble_eq_true rfl) ⟨Nat.zero_le _, Nat.zero_le _⟩ dX2_parseHead_16) (fun H locs hS => ?_)
    refine lv_istore_n (lv' := [(1, .int r_5), (0, .ref (G.1 + 12))]) hx hb dX2_parseHead_19 rfl hl (by decide) rfl (fun ls hl => ?_)
    refine lv_iload_n hx hb dX2_parseHead_20 rfl (lv_at hl 0 rfl) ?_
    refine lv_iconst (v := (-1)) hx hb dX2_parseHead_21 (by decide) ?_
    refine lv_icmp_eq (tgt := 34) hx hb dX2_parseHead_22 (by decide) (fun c_8 => ?_) (fun c_8 => ?_)
    · replace h := ifp c_8 h
      refine lv_iconst (v := 0) hx hb dX2_parseHead_34 (by decide) ?_
      exact r_zret C hS hr hlk h dX2_parseHead_35
    · replace h := ifn c_8 h
      refine lv_aload_n hx hb dX2_parseHead_25 rfl (lv_at hl 1 rfl) ?_
      refine va_ldcS hx hb C.2.2.2.1 (C.2.2.2.2.2.2.2.2.2.2.1 2 (by decide)) dX2_parseHead_26 ?_
      obtain ⟨⟨r_9, M_10⟩, hq_11, h⟩ := ob h
      try dsimp only at h
      refine r_thenI hS (r_runV C hS hl.1 cv_X2_75 rfl (c_X2_parseKeyword l G F 2 M_6 (by decide) _ hq_11) ⟨by decide, by decide⟩ rfl rfl (Nat.le_of_ble_eq_true rfl) ⟨Nat.zero_le _, Nat.zero_le _⟩ dX2_parseHead_28) (fun H locs hS => ?_)
      refine lv_if_ne (tgt := 36) hx hb dX2_parseHead_31 (by decide) (fun c_12 => ?_) (fun c_12 => ?_)
      · replace h := ifn c_12 h
        refine lv_aload_n hx hb dX2_parseHead_36 rfl (lv_at hl 1 rfl) ?_
        refine lv_iload_n hx hb dX2_parseHead_37 rfl (lv_at hl 0 rfl) ?_
        refine lv_sipush (v := 999) hx hb dX2_parseHead_38 (by decide) ?_
        obtain ⟨⟨r_13, M_14⟩, hq_15, h⟩ := ob h
        try dsimp only at h
        refine r_thenI hS (r_runV C hS hl.1 cv_X2_78 rfl (c_X2_parseNumber l G F r_5 999 M_10  _ hq_15) ⟨by decide, by decide⟩ rfl rfl (Nat.le_of_ble_eq_true rfl) ⟨Nat.zero_le _, Nat.zero_le _⟩ dX2_parseHead_41) (fun H locs hS => ?_)
        refine lv_istore_n (lv' := [(2, .int r_13), (1, .int r_5), (0, .ref (G.1 + 12))]) hx hb dX2_parseHead_44 rfl hl (by decide) rfl (fun ls hl => ?_)
        refine lv_iload_n hx hb dX2_parseHead_45 rfl (lv_at hl 0 rfl) ?_
        refine lv_iconst (v := (-1)) hx hb dX2_parseHead_46 (by decide) ?_
        refine lv_icmp_eq (tgt := 59) hx hb dX2_parseHead_47 (by decide) (fun c_16 => ?_) (fun c_16 => ?_)
        · replace h := ifp c_16 h
          refine lv_iconst (v := 0) hx hb dX2_parseHead_59 (by decide) ?_
          exact r_zret C hS hr hlk h dX2_parseHead_60
        · replace h := ifn c_16 h
          refine lv_aload_n hx hb dX2_parseHead_50 rfl (lv_at hl 2 rfl) ?_
          refine va_ldcS hx hb C.2.2.2.1 (C.2.2.2.2.2.2.2.2.2.2.1 3 (by decide)) dX2_parseHead_51 ?_
          obtain ⟨⟨r_17, M_18⟩, hq_19, h⟩ := ob h
          try dsimp only at h
          refine r_thenI hS (r_runV C hS hl.1 cv_X2_75 rfl (c_X2_parseKeyword l G F 3 M_14 (by decide) _ hq_19) ⟨by decide, by decide⟩ rfl rfl (Nat.le_of_ble_eq_true rfl) ⟨Nat.zero_le _, Nat.zero_le _⟩ dX2_parseHead_53) (fun H locs hS => ?_)
          refine lv_if_ne (tgt := 61) hx hb dX2_parseHead_56 (by decide) (fun c_20 => ?_) (fun c_20 => ?_)
          · replace h := ifn c_20 h
            refine lv_aload_n hx hb dX2_parseHead_61 rfl (lv_at hl 2 rfl) ?_
            refine lv_iconst (v := 2) hx hb dX2_parseHead_62 (by decide) ?_
            refine lv_sipush (v := 500) hx hb dX2_parseHead_63 (by decide) ?_
            obtain ⟨⟨r_21, M_22⟩, hq_23, h⟩ := ob h
            try dsimp only at h
            refine r_thenI hS (r_runV C hS hl.1 cv_X2_78 rfl (c_X2_parseNumber l G F 2 500 M_18  _ hq_23) ⟨by decide, by decide⟩ rfl rfl (Nat.le_of_ble_eq_true rfl) ⟨Nat.zero_le _, Nat.zero_le _⟩ dX2_parseHead_66) (fun H locs hS => ?_)
            refine lv_istore_n (lv' := [(3, .int r_21), (2, .int r_13), (1, .int r_5), (0, .ref (G.1 + 12))]) hx hb dX2_parseHead_69 rfl hl (by decide) rfl (fun ls hl => ?_)
            refine lv_iload_n hx hb dX2_parseHead_70 rfl (lv_at hl 0 rfl) ?_
            refine lv_iconst (v := (-1)) hx hb dX2_parseHead_71 (by decide) ?_
            refine lv_icmp_eq (tgt := 84) hx hb dX2_parseHead_72 (by decide) (fun c_24 => ?_) (fun c_24 => ?_)
            · replace h := ifp c_24 h
              refine lv_iconst (v := 0) hx hb dX2_parseHead_84 (by decide) ?_
              exact r_zret C hS hr hlk h dX2_parseHead_85
            · replace h := ifn c_24 h
              refine lv_aload_n hx hb dX2_parseHead_75 rfl (lv_at hl 3 rfl) ?_
              refine lv_bipush (v := 58) hx hb dX2_parseHead_76 (by decide) ?_
              obtain ⟨⟨r_25, M_26⟩, hq_27, h⟩ := ob h
              try dsimp only at h
              refine r_thenI hS (r_runV C hS hl.1 cv_X2_94 rfl (c_X2_parseSign l G F 58 M_22  _ hq_27) ⟨by decide, by decide⟩ rfl rfl (Nat.le_of_ble_eq_true rfl) ⟨Nat.zero_le _, Nat.zero_le _⟩ dX2_parseHead_78) (fun H locs hS => ?_)
              refine lv_if_ne (tgt := 86) hx hb dX2_parseHead_81 (by decide) (fun c_28 => ?_) (fun c_28 => ?_)
              · replace h := ifn c_28 h
                refine lv_aload_n hx hb dX2_parseHead_86 rfl (lv_at hl 3 rfl) ?_
                refine r_gR C hS fl_X2_19 rfl rfl rfl dX2_parseHead_87 ?_
                refine lv_iload_n hx hb dX2_parseHead_90 rfl (lv_at hl 2 rfl) ?_
                refine lv_iload_n hx hb dX2_parseHead_91 rfl (lv_at hl 1 rfl) ?_
                refine lv_iload_n hx hb dX2_parseHead_92 rfl (lv_at hl 0 rfl) ?_
                obtain ⟨⟨_r_29, M_30⟩, hq_31, h⟩ := ob h
                try dsimp only at h
                refine r_thenV hS (r_runV C hS hl.1 cv_X2_86 rfl (c_X0_open l G F r_5 r_13 r_21 M_26  _ hq_31) ⟨by decide, by decide⟩ rfl rfl (Nat.le_of_ble_eq_true rfl) ⟨Nat.zero_le _, Nat.zero_le _⟩ dX2_parseHead_93) (fun H locs hS => ?_)
                refine lv_iconst (v := 1) hx hb dX2_parseHead_96 (by decide) ?_
                exact r_zret C hS hr hlk h dX2_parseHead_97
              · replace h := ifp c_28 h
                refine lv_iconst (v := 0) hx hb dX2_parseHead_84 (by decide) ?_
                exact r_zret C hS hr hlk h dX2_parseHead_85
          · replace h := ifp c_20 h
            refine lv_iconst (v := 0) hx hb dX2_parseHead_59 (by decide) ?_
            exact r_zret C hS hr hlk h dX2_parseHead_60
      · replace h := ifp c_12 h
        refine lv_iconst (v := 0) hx hb dX2_parseHead_34 (by decide) ?_
        exact r_zret C hS hr hlk h dX2_parseHead_35
  · replace h := ifp c_4 h
    refine lv_iconst (v := 0) hx hb dX2_parseHead_9 (by decide) ?_
    exact r_zret C hS hr hlk h dX2_parseHead_10
set_option maxHeartbeats 4000000 in
set_option maxRecDepth 100000 in
theorem w_Gra_parseAsked_J56 {G : Gl} {p : Program} {l : Launch} {e : Env} {s : State} {m : MethodId} {args : Array Value} {below : List Frame} {meth : Method} {c : Code} (C : Cx G cX2_parseAsked 4 RX2 p s m args c) (hr : meth.sig.returnType = (some .boolean)) (hlk : meth.locks = false) (F : Nat) (x1 : Int32) (x2 : Int32) (x3 : Int32) (M : zM)  (q : Int32 × zM) (h : Gra_parseAsked_J56 F x1 x2 x3 M = some q) (H : Heap) (locs : List Loc) (ls : Array Slot) (hS : St G M s H locs) (hl : lv_has ls 4 [(0, .ref (G.1 + 12)), (1, .int x1), (2, .int x2), (3, .int x3)]) : W p l e (rmM 1 26) s m args below meth c H locs 0 0 (MQ below (PoI G q) args s 0 0 (gA G)) (F0 m 56 ls []) := by
  obtain ⟨hx, hb, -⟩ := id C
  unfold Gra_parseAsked_J56 at h
  refine lv_aload_n hx hb dX2_parseAsked_56 rfl (lv_at hl 0 rfl) ?_
  refine r_gR C hS fl_X2_19 rfl rfl rfl dX2_parseAsked_57 ?_
  refine lv_iload_n hx hb dX2_parseAsked_60 rfl (lv_at hl 3 rfl) ?_
  refine lv_iload_n hx hb dX2_parseAsked_61 rfl (lv_at hl 1 rfl) ?_
  refine lv_lconst (v := 0) hx hb dX2_parseAsked_62 (by decide) ?_
  refine lv_iconst (v := 0) hx hb dX2_parseAsked_63 (by decide) ?_
  obtain ⟨⟨_r_10, M_11⟩, hq_12, h⟩ := ob h
  try dsimp only at h
  refine r_thenV hS (r_runV C hS hl.1 cv_X2_116 rfl (c_X0_addPart l G F x3 x1 0 0 M  _ hq_12) ⟨by decide, by decide⟩ rfl rfl (Nat.le_of_ble_eq_true rfl) ⟨Nat.zero_le _, Nat.zero_le _⟩ dX2_parseAsked_64) (fun H locs hS => ?_)
  refine lv_aload_n hx hb dX2_parseAsked_67 rfl (lv_at hl 0 rfl) ?_
  refine r_gR C hS fl_X2_15 rfl rfl rfl dX2_parseAsked_68 ?_
  refine lv_iload_n hx hb dX2_parseAsked_71 rfl (lv_at hl 2 rfl) ?_
  refine lv_iconst (v := 1) hx hb dX2_parseAsked_72 (by decide) ?_
  refine lv_iadd hx hb dX2_parseAsked_73 ?_
  obtain ⟨⟨_r_13, M_14⟩, hq_15, h⟩ := ob h
  try dsimp only at h
  refine r_thenV hS (r_runV C hS hl.1 cv_X2_31 rfl (c_X8_moveTo l G F (x2 + 1) M_11  _ hq_15) ⟨by decide, by decide⟩ rfl rfl (Nat.le_of_ble_eq_true rfl) ⟨Nat.zero_le _, Nat.zero_le _⟩ dX2_parseAsked_74) (fun H locs hS => ?_)
  refine lv_iconst (v := 1) hx hb dX2_parseAsked_77 (by decide) ?_
  exact r_zret C hS hr hlk h dX2_parseAsked_78
set_option maxHeartbeats 4000000 in
set_option maxRecDepth 100000 in
theorem c_X2_parseAsked (l : Launch) (G : Gl) (F : Nat) (x1 : Int32) (M : zM)  (q : Int32 × zM) (h : Gra_parseAsked F x1 M = some q) : Met l yX2_parseAsked (wsM yX2_parseAsked cX2_parseAsked 4 (some .boolean)) (rmM 1 26) (Pre G M [.ref (G.1 + 12), .int x1]) (PoI G q) 0 0 (gA G) := by
  refine r_met (own := RX2) rfl (by decide) (Nat.le_of_ble_eq_true rfl) ?_
  intro p e s m below meth c ls C hr hlk hS hl
  have hl : lv_has ls 4 [(0, .ref (G.1 + 12)), (1, .int x1)] := hl
  obtain ⟨hx, hb, -⟩ := id C
  unfold Gra_parseAsked at h
  refine lv_aload_n hx hb dX2_parseAsked_0 rfl (lv_at hl 0 rfl) ?_
  refine r_gR C hS fl_X2_15 rfl rfl rfl dX2_parseAsked_1 ?_
  obtain ⟨⟨r_1, M_2⟩, hq_3, h⟩ := ob h
  try dsimp only at h
  refine r_thenI hS (r_runV C hS hl.1 cv_X2_56 rfl (c_X8_at l G F  M  _ hq_3) ⟨by decide, by decide⟩ rfl rfl (Nat.le_of_ble_eq_true rfl) ⟨Nat.zero_le _, Nat.zero_le _⟩ dX2_parseAsked_4) (fun H locs hS => ?_)
  refine lv_iconst (v := 1) hx hb dX2_parseAsked_7 (by decide) ?_
  refine lv_iadd hx hb dX2_parseAsked_8 ?_
  obtain ⟨x2_4, e_5, h⟩ := olt h
  refine r_nI e_5 ?_
  refine lv_istore_n (lv' := [(2, .int x2_4), (0, .ref (G.1 + 12)), (1, .int x1)]) hx hb dX2_parseAsked_9 rfl hl (by decide) rfl (fun ls hl => ?_)
  refine lv_aload_n hx hb dX2_parseAsked_10 rfl (lv_at hl 1 rfl) ?_
  refine r_gR C hS fl_X2_15 rfl rfl rfl dX2_parseAsked_11 ?_
  refine lv_iload_n hx hb dX2_parseAsked_14 rfl (lv_at hl 0 rfl) ?_
  obtain ⟨⟨r_6, M_7⟩, hq_8, h⟩ := ob h
  try dsimp only at h
  refine r_thenI hS (r_runV C hS hl.1 cv_X2_112 rfl (c_X8_byteAt l G F x2_4 M_2  _ hq_8) ⟨by decide, by decide⟩ rfl rfl (Nat.le_of_ble_eq_true rfl) ⟨Nat.zero_le _, Nat.zero_le _⟩ dX2_parseAsked_15) (fun H locs hS => ?_)
  refine lv_istore_n (lv' := [(3, .int r_6), (2, .int x2_4), (0, .ref (G.1 + 12)), (1, .int x1)]) hx hb dX2_parseAsked_18 rfl hl (by decide) rfl (fun ls hl => ?_)
  refine lv_iload_n hx hb dX2_parseAsked_19 rfl (lv_at hl 0 rfl) ?_
  refine lv_bipush (v := 113) hx hb dX2_parseAsked_20 (by decide) ?_
  refine lv_icmp_eq (tgt := 56) hx hb dX2_parseAsked_22 (by decide) (fun c_9 => ?_) (fun c_9 => ?_)
  · replace h := ifp c_9 h
    exact w_Gra_parseAsked_J56 C hr hlk F x1 x2_4 r_6 M_7  q h _ _ _ hS (lv_sub hl [2, 3, 1, 0] rfl)
  · replace h := ifn c_9 h
    refine lv_iload_n hx hb dX2_parseAsked_25 rfl (lv_at hl 0 rfl) ?_
    refine lv_bipush (v := 116) hx hb dX2_parseAsked_26 (by decide) ?_
    refine lv_icmp_eq (tgt := 56) hx hb dX2_parseAsked_28 (by decide) (fun c_16 => ?_) (fun c_16 => ?_)
    · replace h := ifp c_16 h
      exact w_Gra_parseAsked_J56 C hr hlk F x1 x2_4 r_6 M_7  q h _ _ _ hS (lv_sub hl [2, 3, 1, 0] rfl)
    · replace h := ifn c_16 h
      refine lv_iload_n hx hb dX2_parseAsked_31 rfl (lv_at hl 0 rfl) ?_
      refine lv_bipush (v := 114) hx hb dX2_parseAsked_32 (by decide) ?_
      refine lv_icmp_eq (tgt := 56) hx hb dX2_parseAsked_34 (by decide) (fun c_17 => ?_) (fun c_17 => ?_)
      · replace h := ifp c_17 h
        exact w_Gra_parseAsked_J56 C hr hlk F x1 x2_4 r_6 M_7  q h _ _ _ hS (lv_sub hl [2, 3, 1, 0] rfl)
      · replace h := ifn c_17 h
        refine lv_iload_n hx hb dX2_parseAsked_37 rfl (lv_at hl 0 rfl) ?_
        refine lv_bipush (v := 99) hx hb dX2_parseAsked_38 (by decide) ?_
        refine lv_icmp_eq (tgt := 56) hx hb dX2_parseAsked_40 (by decide) (fun c_18 => ?_) (fun c_18 => ?_)
        · replace h := ifp c_18 h
          exact w_Gra_parseAsked_J56 C hr hlk F x1 x2_4 r_6 M_7  q h _ _ _ hS (lv_sub hl [2, 3, 1, 0] rfl)
        · replace h := ifn c_18 h
          refine lv_iload_n hx hb dX2_parseAsked_43 rfl (lv_at hl 0 rfl) ?_
          refine lv_bipush (v := 110) hx hb dX2_parseAsked_44 (by decide) ?_
          refine lv_icmp_eq (tgt := 56) hx hb dX2_parseAsked_46 (by decide) (fun c_19 => ?_) (fun c_19 => ?_)
          · replace h := ifp c_19 h
            exact w_Gra_parseAsked_J56 C hr hlk F x1 x2_4 r_6 M_7  q h _ _ _ hS (lv_sub hl [2, 3, 1, 0] rfl)
          · replace h := ifn c_19 h
            refine lv_aload_n hx hb dX2_parseAsked_49 rfl (lv_at hl 2 rfl) ?_
            refine lv_iconst (v := 1) hx hb dX2_parseAsked_50 (by decide) ?_
            refine lv_iload_n hx hb dX2_parseAsked_51 rfl (lv_at hl 1 rfl) ?_
            obtain ⟨⟨r_20, M_21⟩, hq_22, h⟩ := ob h
            try dsimp only at h
            refine r_thenI hS (r_runV C hS hl.1 cv_X2_59 rfl (c_X2_fail l G F 1 x2_4 M_7  _ hq_22) ⟨by decide, by decide⟩ rfl rfl (Nat.le_of_ble_eq_true rfl) ⟨Nat.zero_le _, Nat.zero_le _⟩ dX2_parseAsked_52) (fun H locs hS => ?_)
            exact r_zret C hS hr hlk h dX2_parseAsked_55
set_option maxHeartbeats 4000000 in
set_option maxRecDepth 100000 in
theorem w_Gra_parsePart_J31 {G : Gl} {p : Program} {l : Launch} {e : Env} {s : State} {m : MethodId} {args : Array Value} {below : List Frame} {meth : Method} {c : Code} (C : Cx G cX2_parsePart 3 RX2 p s m args c) (hr : meth.sig.returnType = (some .boolean)) (hlk : meth.locks = false) (F : Nat) (x1 : Int32) (x2 : Int32) (M : zM)  (q : Int32 × zM) (h : Gra_parsePart_J31 F x1 x2 M = some q) (H : Heap) (locs : List Loc) (ls : Array Slot) (hS : St G M s H locs) (hl : lv_has ls 3 [(0, .ref (G.1 + 12)), (1, .int x1), (2, .int x2)]) : W p l e (rmM 3 69) s m args below meth c H locs 0 0 (MQ below (PoI G q) args s 0 0 (gA G)) (F0 m 31 ls []) := by
  obtain ⟨hx, hb, -⟩ := id C
  unfold Gra_parsePart_J31 at h
  refine lv_aload_n hx hb dX2_parsePart_31 rfl (lv_at hl 0 rfl) ?_
  refine r_gR C hS fl_X2_19 rfl rfl rfl dX2_parsePart_32 ?_
  obtain ⟨⟨r_2, M_3⟩, hq_4, h⟩ := ob h
  try dsimp only at h
  refine r_thenI hS (r_runV C hS hl.1 cv_X2_102 rfl (c_X0_latestParts l G F  M  _ hq_4) ⟨by decide, by decide⟩ rfl rfl (Nat.le_of_ble_eq_true rfl) ⟨Nat.zero_le _, Nat.zero_le _⟩ dX2_parsePart_35) (fun H locs hS => ?_)
  refine lv_bipush (v := 8) hx hb dX2_parsePart_38 (by decide) ?_
  refine lv_icmp_lt (tgt := 57) hx hb dX2_parsePart_40 (by decide) (fun c_5 => ?_) (fun c_5 => ?_)
  · replace h := ifp c_5 h
    refine lv_iload_n hx hb dX2_parsePart_57 rfl (lv_at hl 1 rfl) ?_
    refine lv_bipush (v := 35) hx hb dX2_parsePart_58 (by decide) ?_
    refine lv_icmp_ne (tgt := 71) hx hb dX2_parsePart_60 (by decide) (fun c_6 => ?_) (fun c_6 => ?_)
    · replace h := ifn c_6 h
      refine lv_aload_n hx hb dX2_parsePart_71 rfl (lv_at hl 0 rfl) ?_
      refine lv_iload_n hx hb dX2_parsePart_72 rfl (lv_at hl 2 rfl) ?_
      obtain ⟨⟨r_7, M_8⟩, hq_9, h⟩ := ob h
      try dsimp only at h
      refine r_thenI hS (r_runV C hS hl.1 cv_X2_90 rfl (c_X2_parseLetters l G F x2 M_3  _ hq_9) ⟨by decide, by decide⟩ rfl rfl (Nat.le_of_ble_eq_true rfl) ⟨Nat.zero_le _, Nat.zero_le _⟩ dX2_parsePart_73) (fun H locs hS => ?_)
      exact r_zret C hS hr hlk h dX2_parsePart_76
    · replace h := ifp c_6 h
      refine lv_aload_n hx hb dX2_parsePart_63 rfl (lv_at hl 0 rfl) ?_
      refine lv_iload_n hx hb dX2_parsePart_64 rfl (lv_at hl 2 rfl) ?_
      obtain ⟨⟨r_10, M_11⟩, hq_12, h⟩ := ob h
      try dsimp only at h
      refine r_thenI hS (r_runV C hS hl.1 cv_X2_109 rfl (c_X2_parseAsked l G F x2 M_3  _ hq_12) ⟨by decide, by decide⟩ rfl rfl (Nat.le_of_ble_eq_true rfl) ⟨Nat.zero_le _, Nat.zero_le _⟩ dX2_parsePart_65) (fun H locs hS => ?_)
      refine lv_goto (tgt := 76) hx hb dX2_parsePart_68 (by decide) ?_
      exact r_zret C hS hr hlk h dX2_parsePart_76
  · replace h := ifn c_5 h
    refine lv_aload_n hx hb dX2_parsePart_43 rfl (lv_at hl 0 rfl) ?_
    refine lv_bipush (v := 6) hx hb dX2_parsePart_44 (by decide) ?_
    refine lv_aload_n hx hb dX2_parsePart_46 rfl (lv_at hl 0 rfl) ?_
    refine r_gR C hS fl_X2_15 rfl rfl rfl dX2_parsePart_47 ?_
    obtain ⟨⟨r_13, M_14⟩, hq_15, h⟩ := ob h
    try dsimp only at h
    refine r_thenI hS (r_runV C hS hl.1 cv_X2_56 rfl (c_X8_at l G F  M_3  _ hq_15) ⟨by decide, by decide⟩ rfl rfl (Nat.le_of_ble_eq_true rfl) ⟨Nat.zero_le _, Nat.zero_le _⟩ dX2_parsePart_50) (fun H locs hS => ?_)
    obtain ⟨⟨r_16, M_17⟩, hq_18, h⟩ := ob h
    try dsimp only at h
    refine r_thenI hS (r_runV C hS hl.1 cv_X2_59 rfl (c_X2_fail l G F 6 r_13 M_14  _ hq_18) ⟨by decide, by decide⟩ rfl rfl (Nat.le_of_ble_eq_true rfl) ⟨Nat.zero_le _, Nat.zero_le _⟩ dX2_parsePart_53) (fun H locs hS => ?_)
    exact r_zret C hS hr hlk h dX2_parsePart_56
set_option maxHeartbeats 4000000 in
set_option maxRecDepth 100000 in
theorem w_Gra_parsePart_J18 {G : Gl} {p : Program} {l : Launch} {e : Env} {s : State} {m : MethodId} {args : Array Value} {below : List Frame} {meth : Method} {c : Code} (C : Cx G cX2_parsePart 3 RX2 p s m args c) (hr : meth.sig.returnType = (some .boolean)) (hlk : meth.locks = false) (F : Nat)  (M : zM)  (q : Int32 × zM) (h : Gra_parsePart_J18 F  M = some q) (H : Heap) (locs : List Loc) (ls : Array Slot) (hS : St G M s H locs) (hl : lv_has ls 3 [(0, .ref (G.1 + 12))]) : W p l e (rmM 3 69) s m args below meth c H locs 0 0 (MQ below (PoI G q) args s 0 0 (gA G)) (F0 m 18 ls []) := by
  obtain ⟨hx, hb, -⟩ := id C
  unfold Gra_parsePart_J18 at h
  refine lv_aload_n hx hb dX2_parsePart_18 rfl (lv_at hl 0 rfl) ?_
  refine lv_iconst (v := 1) hx hb dX2_parsePart_19 (by decide) ?_
  refine lv_aload_n hx hb dX2_parsePart_20 rfl (lv_at hl 0 rfl) ?_
  refine r_gR C hS fl_X2_15 rfl rfl rfl dX2_parsePart_21 ?_
  obtain ⟨⟨r_20, M_21⟩, hq_22, h⟩ := ob h
  try dsimp only at h
  refine r_thenI hS (r_runV C hS hl.1 cv_X2_56 rfl (c_X8_at l G F  M  _ hq_22) ⟨by decide, by decide⟩ rfl rfl (Nat.le_of_ble_eq_true rfl) ⟨Nat.zero_le _, Nat.zero_le _⟩ dX2_parsePart_24) (fun H locs hS => ?_)
  obtain ⟨⟨r_23, M_24⟩, hq_25, h⟩ := ob h
  try dsimp only at h
  refine r_thenI hS (r_runV C hS hl.1 cv_X2_59 rfl (c_X2_fail l G F 1 r_20 M_21  _ hq_25) ⟨by decide, by decide⟩ rfl rfl (Nat.le_of_ble_eq_true rfl) ⟨Nat.zero_le _, Nat.zero_le _⟩ dX2_parsePart_27) (fun H locs hS => ?_)
  exact r_zret C hS hr hlk h dX2_parsePart_30
set_option maxHeartbeats 4000000 in
set_option maxRecDepth 100000 in
theorem c_X2_parsePart (l : Launch) (G : Gl) (F : Nat) (x1 : Int32) (x2 : Int32) (M : zM)  (q : Int32 × zM) (h : Gra_parsePart F x1 x2 M = some q) : Met l yX2_parsePart (wsM yX2_parsePart cX2_parsePart 3 (some .boolean)) (rmM 3 69) (Pre G M [.ref (G.1 + 12), .int x1, .int x2]) (PoI G q) 0 0 (gA G) := by
  refine r_met (own := RX2) rfl (by decide) (Nat.le_of_ble_eq_true rfl) ?_
  intro p e s m below meth c ls C hr hlk hS hl
  have hl : lv_has ls 3 [(0, .ref (G.1 + 12)), (1, .int x1), (2, .int x2)] := hl
  obtain ⟨hx, hb, -⟩ := id C
  unfold Gra_parsePart at h
  refine lv_iload_n hx hb dX2_parsePart_0 rfl (lv_at hl 1 rfl) ?_
  refine lv_bipush (v := 35) hx hb dX2_parsePart_1 (by decide) ?_
  refine lv_icmp_eq (tgt := 31) hx hb dX2_parsePart_3 (by decide) (fun c_1 => ?_) (fun c_1 => ?_)
  · replace h := ifp c_1 h
    exact w_Gra_parsePart_J31 C hr hlk F x1 x2 M  q h _ _ _ hS (lv_sub hl [0, 1, 2] rfl)
  · replace h := ifn c_1 h
    refine lv_iload_n hx hb dX2_parsePart_6 rfl (lv_at hl 1 rfl) ?_
    refine lv_bipush (v := 97) hx hb dX2_parsePart_7 (by decide) ?_
    refine lv_icmp_lt (tgt := 18) hx hb dX2_parsePart_9 (by decide) (fun c_19 => ?_) (fun c_19 => ?_)
    · replace h := ifp c_19 h
      exact w_Gra_parsePart_J18 C hr hlk F  M  q h _ _ _ hS (lv_sub hl [0] rfl)
    · replace h := ifn c_19 h
      refine lv_iload_n hx hb dX2_parsePart_12 rfl (lv_at hl 1 rfl) ?_
      refine lv_bipush (v := 122) hx hb dX2_parsePart_13 (by decide) ?_
      refine lv_icmp_le (tgt := 31) hx hb dX2_parsePart_15 (by decide) (fun c_26 => ?_) (fun c_26 => ?_)
      · replace h := ifp c_26 h
        exact w_Gra_parsePart_J31 C hr hlk F x1 x2 M  q h _ _ _ hS (lv_sub hl [0, 1, 2] rfl)
      · replace h := ifn c_26 h
        exact w_Gra_parsePart_J18 C hr hlk F  M  q h _ _ _ hS (lv_sub hl [0] rfl)
def E_Gra_parseParts_4 (G : Gl) (p : Program) (l : Launch) (e : Env) (s : State) (m : MethodId) (args : Array Value) (below : List Frame) (meth : Method) (c : Code) (Q : State → Prop)  : Nat → (Int32 × Int32 × zM) → Prop := fun k (x1, x2, M) => match k with
  | 0 => ∀ (H : Heap) (locs : List Loc) (ls : Array Slot), St G M s H locs → lv_has ls 5 [(0, .ref (G.1 + 12)), (1, .int x1), (2, .int x2)] → W p l e (rmM 4 91) s m args below meth c H locs 0 0 Q (F0 m 4 ls [])
  | 1 => ∀ (H : Heap) (locs : List Loc) (ls : Array Slot), St G M s H locs → lv_has ls 5 [(0, .ref (G.1 + 12))] → W p l e (rmM 4 91) s m args below meth c H locs 0 0 Q (F0 m 51 ls [])
  | 2 => ∀ (H : Heap) (locs : List Loc) (ls : Array Slot), St G M s H locs → lv_has ls 5 [] → W p l e (rmM 4 91) s m args below meth c H locs 0 0 Q (F0 m 147 ls [])
  | 3 => ∀ (H : Heap) (locs : List Loc) (ls : Array Slot), St G M s H locs → lv_has ls 5 [] → W p l e (rmM 4 91) s m args below meth c H locs 0 0 Q (F0 m 155 ls [])
  | _ => True
set_option maxHeartbeats 4000000 in
set_option maxRecDepth 100000 in
theorem w_Gra_parseParts_J141 {G : Gl} {p : Program} {l : Launch} {e : Env} {s : State} {m : MethodId} {args : Array Value} {below : List Frame} {meth : Method} {c : Code} {Q : State → Prop} (C : Cx G cX2_parseParts 5 RX2 p s m args c)  (F : Nat) (x1 : Int32) (x2 : Int32) (y1 : Int32) (y2 : Int32) (M : zM)  (q : Nat × (Int32 × Int32 × zM)) (h : Gra_parseParts_J141 F x1 x2 y1 y2 M = some q) (hE : (E_Gra_parseParts_4 G p l e s m args below meth c Q ) q.1 q.2) (H : Heap) (locs : List Loc) (ls : Array Slot) (hS : St G M s H locs) (hl : lv_has ls 5 [(0, .ref (G.1 + 12)), (1, .int x1), (2, .int x2)]) : W p l e (rmM 4 91) s m args below meth c H locs 0 0 Q (F0 m 141 ls [.int y2, .int y1, .ref (G.1 + 12)]) := by
  obtain ⟨hx, hb, -⟩ := id C
  unfold Gra_parseParts_J141 at h
  obtain ⟨⟨r_15, M_16⟩, hq_17, h⟩ := ob h
  try dsimp only at h
  refine r_thenI hS (r_runV C hS hl.1 cv_X2_105 rfl (c_X2_parsePart l G F y1 y2 M  _ hq_17) ⟨by decide, by decide⟩ rfl rfl (Nat.le_of_ble_eq_true rfl) ⟨Nat.zero_le _, Nat.zero_le _⟩ dX2_parseParts_141) (fun H locs hS => ?_)
  refine lv_if_ne (tgt := 149) hx hb dX2_parseParts_144 (by decide) (fun c_18 => ?_) (fun c_18 => ?_)
  · replace h := ifn c_18 h
    obtain ⟨x2_19, e_20, h⟩ := olt h
    refine lv_iinc (v := x2_19) (lv' := [(2, .int x2_19), (0, .ref (G.1 + 12)), (1, .int x1)]) hx hb dX2_parseParts_149 hl (k := 2) rfl (by rw [e_20]; rfl) (by decide) rfl (fun ls hl => ?_)
    refine lv_goto (tgt := 4) hx hb dX2_parseParts_152 (by decide) ?_
    obtain rfl := Option.some.inj h
    exact hE _ _ _ hS (lv_sub hl [1, 2, 0] rfl)
  · replace h := ifp c_18 h
    obtain rfl := Option.some.inj h
    exact hE _ _ _ hS (lv_sub hl [] rfl)
set_option maxHeartbeats 4000000 in
set_option maxRecDepth 100000 in
theorem w_Gra_parseParts_J129 {G : Gl} {p : Program} {l : Launch} {e : Env} {s : State} {m : MethodId} {args : Array Value} {below : List Frame} {meth : Method} {c : Code} {Q : State → Prop} (C : Cx G cX2_parseParts 5 RX2 p s m args c)  (F : Nat) (x1 : Int32) (x2 : Int32) (x3 : Int32) (M : zM)  (q : Nat × (Int32 × Int32 × zM)) (h : Gra_parseParts_J129 F x1 x2 x3 M = some q) (hE : (E_Gra_parseParts_4 G p l e s m args below meth c Q ) q.1 q.2) (H : Heap) (locs : List Loc) (ls : Array Slot) (hS : St G M s H locs) (hl : lv_has ls 5 [(0, .ref (G.1 + 12)), (1, .int x1), (2, .int x2), (3, .int x3)]) : W p l e (rmM 4 91) s m args below meth c H locs 0 0 Q (F0 m 129 ls []) := by
  obtain ⟨hx, hb, -⟩ := id C
  unfold Gra_parseParts_J129 at h
  refine lv_aload_n hx hb dX2_parseParts_129 rfl (lv_at hl 0 rfl) ?_
  refine lv_iload_n hx hb dX2_parseParts_130 rfl (lv_at hl 3 rfl) ?_
  refine lv_iload_n hx hb dX2_parseParts_131 rfl (lv_at hl 1 rfl) ?_
  refine lv_iconst (v := (-1)) hx hb dX2_parseParts_132 (by decide) ?_
  refine lv_icmp_eq (tgt := 140) hx hb dX2_parseParts_133 (by decide) (fun c_14 => ?_) (fun c_14 => ?_)
  · replace h := ifp c_14 h
    refine lv_iconst (v := 0) hx hb dX2_parseParts_140 (by decide) ?_
    exact w_Gra_parseParts_J141 C  F x1 x2 x3 0 M  q h hE _ _ _ hS (lv_sub hl [0, 1, 2] rfl)
  · replace h := ifn c_14 h
    refine lv_iconst (v := 1) hx hb dX2_parseParts_136 (by decide) ?_
    refine lv_goto (tgt := 141) hx hb dX2_parseParts_137 (by decide) ?_
    exact w_Gra_parseParts_J141 C  F x1 x2 x3 1 M  q h hE _ _ _ hS (lv_sub hl [0, 1, 2] rfl)
set_option maxHeartbeats 4000000 in
set_option maxRecDepth 100000 in
theorem w_Gra_parseParts_J91 {G : Gl} {p : Program} {l : Launch} {e : Env} {s : State} {m : MethodId} {args : Array Value} {below : List Frame} {meth : Method} {c : Code} {Q : State → Prop} (C : Cx G cX2_parseParts 5 RX2 p s m args c)  (F : Nat) (x1 : Int32) (x2 : Int32) (x3 : Int32) (x4 : Int32) (M : zM)  (q : Nat × (Int32 × Int32 × zM)) (h : Gra_parseParts_J91 F x1 x2 x3 x4 M = some q) (hE : (E_Gra_parseParts_4 G p l e s m args below meth c Q ) q.1 q.2) (H : Heap) (locs : List Loc) (ls : Array Slot) (hS : St G M s H locs) (hl : lv_has ls 5 [(0, .ref (G.1 + 12)), (1, .int x1), (2, .int x2), (3, .int x3), (4, .int x4)]) : W p l e (rmM 4 91) s m args below meth c H locs 0 0 Q (F0 m 91 ls []) := by
  obtain ⟨hx, hb, -⟩ := id C
  unfold Gra_parseParts_J91 at h
  refine lv_iload_n hx hb dX2_parseParts_91 rfl (lv_at hl 3 rfl) ?_
  refine lv_bipush (v := 93) hx hb dX2_parseParts_92 (by decide) ?_
  refine lv_icmp_ne (tgt := 129) hx hb dX2_parseParts_94 (by decide) (fun c_13 => ?_) (fun c_13 => ?_)
  · replace h := ifn c_13 h
    exact w_Gra_parseParts_J129 C  F x1 x2 x3 M  q h hE _ _ _ hS (lv_sub hl [0, 1, 2, 3] rfl)
  · replace h := ifp c_13 h
    refine lv_iload_n hx hb dX2_parseParts_97 rfl (lv_at hl 1 rfl) ?_
    refine lv_iconst (v := (-1)) hx hb dX2_parseParts_98 (by decide) ?_
    refine lv_icmp_eq (tgt := 129) hx hb dX2_parseParts_99 (by decide) (fun c_21 => ?_) (fun c_21 => ?_)
    · replace h := ifp c_21 h
      exact w_Gra_parseParts_J129 C  F x1 x2 x3 M  q h hE _ _ _ hS (lv_sub hl [0, 1, 2, 3] rfl)
    · replace h := ifn c_21 h
      refine lv_iload hx hb dX2_parseParts_102 (lv_at hl 4 rfl) ?_
      refine lv_iload_n hx hb dX2_parseParts_104 rfl (lv_at hl 1 rfl) ?_
      refine lv_icmp_le (tgt := 129) hx hb dX2_parseParts_105 (by decide) (fun c_22 => ?_) (fun c_22 => ?_)
      · replace h := ifp c_22 h
        exact w_Gra_parseParts_J129 C  F x1 x2 x3 M  q h hE _ _ _ hS (lv_sub hl [0, 1, 2, 3] rfl)
      · replace h := ifn c_22 h
        refine lv_iconst (v := (-1)) hx hb dX2_parseParts_108 (by decide) ?_
        refine lv_istore_n (lv' := [(1, .int (-1)), (0, .ref (G.1 + 12)), (2, .int x2), (3, .int x3), (4, .int x4)]) hx hb dX2_parseParts_109 rfl hl (by decide) rfl (fun ls hl => ?_)
        refine lv_aload_n hx hb dX2_parseParts_110 rfl (lv_at hl 1 rfl) ?_
        refine r_gR C hS fl_X2_15 rfl rfl rfl dX2_parseParts_111 ?_
        refine lv_aload_n hx hb dX2_parseParts_114 rfl (lv_at hl 1 rfl) ?_
        refine r_gR C hS fl_X2_15 rfl rfl rfl dX2_parseParts_115 ?_
        obtain ⟨⟨r_23, M_24⟩, hq_25, h⟩ := ob h
        try dsimp only at h
        refine r_thenI hS (r_runV C hS hl.1 cv_X2_56 rfl (c_X8_at l G F  M  _ hq_25) ⟨by decide, by decide⟩ rfl rfl (Nat.le_of_ble_eq_true rfl) ⟨Nat.zero_le _, Nat.zero_le _⟩ dX2_parseParts_118) (fun H locs hS => ?_)
        refine lv_iconst (v := 1) hx hb dX2_parseParts_121 (by decide) ?_
        refine lv_iadd hx hb dX2_parseParts_122 ?_
        obtain ⟨⟨_r_26, M_27⟩, hq_28, h⟩ := ob h
        try dsimp only at h
        refine r_thenV hS (r_runV C hS hl.1 cv_X2_31 rfl (c_X8_moveTo l G F (r_23 + 1) M_24  _ hq_28) ⟨by decide, by decide⟩ rfl rfl (Nat.le_of_ble_eq_true rfl) ⟨Nat.zero_le _, Nat.zero_le _⟩ dX2_parseParts_123) (fun H locs hS => ?_)
        refine lv_goto (tgt := 149) hx hb dX2_parseParts_126 (by decide) ?_
        obtain ⟨x2_29, e_30, h⟩ := olt h
        refine lv_iinc (v := x2_29) (lv' := [(2, .int x2_29), (1, .int (-1)), (0, .ref (G.1 + 12)), (3, .int x3), (4, .int x4)]) hx hb dX2_parseParts_149 hl (k := 2) rfl (by rw [e_30]; rfl) (by decide) rfl (fun ls hl => ?_)
        refine lv_goto (tgt := 4) hx hb dX2_parseParts_152 (by decide) ?_
        obtain rfl := Option.some.inj h
        exact hE _ _ _ hS (lv_sub hl [2, 1, 0] rfl)
set_option maxHeartbeats 4000000 in
set_option maxRecDepth 100000 in
theorem w_Gra_parseParts_J58 {G : Gl} {p : Program} {l : Launch} {e : Env} {s : State} {m : MethodId} {args : Array Value} {below : List Frame} {meth : Method} {c : Code} {Q : State → Prop} (C : Cx G cX2_parseParts 5 RX2 p s m args c)  (F : Nat) (x1 : Int32) (x2 : Int32) (x3 : Int32) (x4 : Int32) (M : zM)  (q : Nat × (Int32 × Int32 × zM)) (h : Gra_parseParts_J58 F x1 x2 x3 x4 M = some q) (hE : (E_Gra_parseParts_4 G p l e s m args below meth c Q ) q.1 q.2) (H : Heap) (locs : List Loc) (ls : Array Slot) (hS : St G M s H locs) (hl : lv_has ls 5 [(0, .ref (G.1 + 12)), (1, .int x1), (2, .int x2), (3, .int x3), (4, .int x4)]) : W p l e (rmM 4 91) s m args below meth c H locs 0 0 Q (F0 m 58 ls []) := by
  obtain ⟨hx, hb, -⟩ := id C
  unfold Gra_parseParts_J58 at h
  refine lv_iload_n hx hb dX2_parseParts_58 rfl (lv_at hl 3 rfl) ?_
  refine lv_bipush (v := 91) hx hb dX2_parseParts_59 (by decide) ?_
  refine lv_icmp_ne (tgt := 91) hx hb dX2_parseParts_61 (by decide) (fun c_12 => ?_) (fun c_12 => ?_)
  · replace h := ifn c_12 h
    exact w_Gra_parseParts_J91 C  F x1 x2 x3 x4 M  q h hE _ _ _ hS (lv_sub hl [0, 1, 2, 3, 4] rfl)
  · replace h := ifp c_12 h
    refine lv_iload_n hx hb dX2_parseParts_64 rfl (lv_at hl 1 rfl) ?_
    refine lv_iconst (v := (-1)) hx hb dX2_parseParts_65 (by decide) ?_
    refine lv_icmp_ne (tgt := 91) hx hb dX2_parseParts_66 (by decide) (fun c_31 => ?_) (fun c_31 => ?_)
    · replace h := ifn c_31 h
      exact w_Gra_parseParts_J91 C  F x1 x2 x3 x4 M  q h hE _ _ _ hS (lv_sub hl [0, 1, 2, 3, 4] rfl)
    · replace h := ifp c_31 h
      refine lv_iload hx hb dX2_parseParts_69 (lv_at hl 4 rfl) ?_
      refine lv_istore_n (lv' := [(1, .int x4), (0, .ref (G.1 + 12)), (2, .int x2), (3, .int x3), (4, .int x4)]) hx hb dX2_parseParts_71 rfl hl (by decide) rfl (fun ls hl => ?_)
      refine lv_aload_n hx hb dX2_parseParts_72 rfl (lv_at hl 1 rfl) ?_
      refine r_gR C hS fl_X2_15 rfl rfl rfl dX2_parseParts_73 ?_
      refine lv_aload_n hx hb dX2_parseParts_76 rfl (lv_at hl 1 rfl) ?_
      refine r_gR C hS fl_X2_15 rfl rfl rfl dX2_parseParts_77 ?_
      obtain ⟨⟨r_32, M_33⟩, hq_34, h⟩ := ob h
      try dsimp only at h
      refine r_thenI hS (r_runV C hS hl.1 cv_X2_56 rfl (c_X8_at l G F  M  _ hq_34) ⟨by decide, by decide⟩ rfl rfl (Nat.le_of_ble_eq_true rfl) ⟨Nat.zero_le _, Nat.zero_le _⟩ dX2_parseParts_80) (fun H locs hS => ?_)
      refine lv_iconst (v := 1) hx hb dX2_parseParts_83 (by decide) ?_
      refine lv_iadd hx hb dX2_parseParts_84 ?_
      obtain ⟨⟨_r_35, M_36⟩, hq_37, h⟩ := ob h
      try dsimp only at h
      refine r_thenV hS (r_runV C hS hl.1 cv_X2_31 rfl (c_X8_moveTo l G F (r_32 + 1) M_33  _ hq_37) ⟨by decide, by decide⟩ rfl rfl (Nat.le_of_ble_eq_true rfl) ⟨Nat.zero_le _, Nat.zero_le _⟩ dX2_parseParts_85) (fun H locs hS => ?_)
      refine lv_goto (tgt := 149) hx hb dX2_parseParts_88 (by decide) ?_
      obtain ⟨x2_38, e_39, h⟩ := olt h
      refine lv_iinc (v := x2_38) (lv' := [(2, .int x2_38), (1, .int x4), (0, .ref (G.1 + 12)), (3, .int x3), (4, .int x4)]) hx hb dX2_parseParts_149 hl (k := 2) rfl (by rw [e_39]; rfl) (by decide) rfl (fun ls hl => ?_)
      refine lv_goto (tgt := 4) hx hb dX2_parseParts_152 (by decide) ?_
      obtain rfl := Option.some.inj h
      exact hE _ _ _ hS (lv_sub hl [2, 1, 0] rfl)
set_option maxHeartbeats 4000000 in
set_option maxRecDepth 100000 in
theorem w_Gra_parseParts_B4 {G : Gl} {p : Program} {l : Launch} {e : Env} {s : State} {m : MethodId} {args : Array Value} {below : List Frame} {meth : Method} {c : Code} {Q : State → Prop} (C : Cx G cX2_parseParts 5 RX2 p s m args c)  (F : Nat) : ∀ (σ : (Int32 × Int32 × zM)) (q : Nat × (Int32 × Int32 × zM)), Gra_parseParts_B4 F  σ = some q → (E_Gra_parseParts_4 G p l e s m args below meth c Q ) q.1 q.2 → (E_Gra_parseParts_4 G p l e s m args below meth c Q ) 0 σ := by
  intro (x1, x2, M) q h hE H locs ls hS hl
  obtain ⟨hx, hb, -⟩ := id C
  unfold Gra_parseParts_B4 at h
  try dsimp only at h
  refine lv_iload_n hx hb dX2_parseParts_4 rfl (lv_at hl 2 rfl) ?_
  refine lv_sipush (v := 240) hx hb dX2_parseParts_5 (by decide) ?_
  refine lv_icmp_gt (tgt := 155) hx hb dX2_parseParts_8 (by decide) (fun c_1 => ?_) (fun c_1 => ?_)
  · replace h := ifp c_1 h
    obtain rfl := Option.some.inj h
    exact hE _ _ _ hS (lv_sub hl [] rfl)
  · replace h := ifn c_1 h
    refine lv_aload_n hx hb dX2_parseParts_11 rfl (lv_at hl 0 rfl) ?_
    refine r_gR C hS fl_X2_15 rfl rfl rfl dX2_parseParts_12 ?_
    obtain ⟨⟨_r_2, M_3⟩, hq_4, h⟩ := ob h
    try dsimp only at h
    refine r_thenV hS (r_runV C hS hl.1 cv_X2_37 rfl (c_X8_skipBlanks l G F  M  _ hq_4) ⟨by decide, by decide⟩ rfl rfl (Nat.le_of_ble_eq_true rfl) ⟨Nat.zero_le _, Nat.zero_le _⟩ dX2_parseParts_15) (fun H locs hS => ?_)
    refine lv_aload_n hx hb dX2_parseParts_18 rfl (lv_at hl 0 rfl) ?_
    refine r_gR C hS fl_X2_15 rfl rfl rfl dX2_parseParts_19 ?_
    obtain ⟨⟨r_5, M_6⟩, hq_7, h⟩ := ob h
    try dsimp only at h
    refine r_thenI hS (r_runV C hS hl.1 cv_X2_40 rfl (c_X8_current l G F  M_3  _ hq_7) ⟨by decide, by decide⟩ rfl rfl (Nat.le_of_ble_eq_true rfl) ⟨Nat.zero_le _, Nat.zero_le _⟩ dX2_parseParts_22) (fun H locs hS => ?_)
    refine lv_istore_n (lv' := [(3, .int r_5), (0, .ref (G.1 + 12)), (1, .int x1), (2, .int x2)]) hx hb dX2_parseParts_25 rfl hl (by decide) rfl (fun ls hl => ?_)
    refine lv_aload_n hx hb dX2_parseParts_26 rfl (lv_at hl 1 rfl) ?_
    refine r_gR C hS fl_X2_19 rfl rfl rfl dX2_parseParts_27 ?_
    obtain ⟨⟨r_8, M_9⟩, hq_10, h⟩ := ob h
    try dsimp only at h
    refine r_thenI hS (r_runV C hS hl.1 cv_X2_102 rfl (c_X0_latestParts l G F  M_6  _ hq_10) ⟨by decide, by decide⟩ rfl rfl (Nat.le_of_ble_eq_true rfl) ⟨Nat.zero_le _, Nat.zero_le _⟩ dX2_parseParts_30) (fun H locs hS => ?_)
    refine lv_istore (lv' := [(4, .int r_8), (3, .int r_5), (0, .ref (G.1 + 12)), (1, .int x1), (2, .int x2)]) hx hb dX2_parseParts_33 hl (by decide) rfl (fun ls hl => ?_)
    refine lv_iload_n hx hb dX2_parseParts_35 rfl (lv_at hl 1 rfl) ?_
    refine lv_bipush (v := 59) hx hb dX2_parseParts_36 (by decide) ?_
    refine lv_icmp_ne (tgt := 58) hx hb dX2_parseParts_38 (by decide) (fun c_11 => ?_) (fun c_11 => ?_)
    · replace h := ifn c_11 h
      exact w_Gra_parseParts_J58 C  F x1 x2 r_5 r_8 M_9  q h hE _ _ _ hS (lv_sub hl [2, 3, 4, 1, 0] rfl)
    · replace h := ifp c_11 h
      refine lv_iload_n hx hb dX2_parseParts_41 rfl (lv_at hl 3 rfl) ?_
      refine lv_iconst (v := (-1)) hx hb dX2_parseParts_42 (by decide) ?_
      refine lv_icmp_ne (tgt := 58) hx hb dX2_parseParts_43 (by decide) (fun c_40 => ?_) (fun c_40 => ?_)
      · replace h := ifn c_40 h
        exact w_Gra_parseParts_J58 C  F x1 x2 r_5 r_8 M_9  q h hE _ _ _ hS (lv_sub hl [2, 3, 4, 1, 0] rfl)
      · replace h := ifp c_40 h
        refine lv_iload hx hb dX2_parseParts_46 (lv_at hl 0 rfl) ?_
        refine lv_if_le (tgt := 58) hx hb dX2_parseParts_48 (by decide) (fun c_41 => ?_) (fun c_41 => ?_)
        · replace h := ifp c_41 h
          exact w_Gra_parseParts_J58 C  F x1 x2 r_5 r_8 M_9  q h hE _ _ _ hS (lv_sub hl [2, 3, 4, 1, 0] rfl)
        · replace h := ifn c_41 h
          obtain rfl := Option.some.inj h
          exact hE _ _ _ hS (lv_sub hl [2] rfl)
set_option maxHeartbeats 4000000 in
set_option maxRecDepth 100000 in
theorem c_X2_parseParts (l : Launch) (G : Gl) (F : Nat)  (M : zM)  (q : Int32 × zM) (h : Gra_parseParts F  M = some q) : Met l yX2_parseParts (wsM yX2_parseParts cX2_parseParts 5 (some .boolean)) (rmM 4 91) (Pre G M [.ref (G.1 + 12)]) (PoI G q) 0 0 (gA G) := by
  refine r_met (own := RX2) rfl (by decide) (Nat.le_of_ble_eq_true rfl) ?_
  intro p e s m below meth c ls C hr hlk hS hl
  have hl : lv_has ls 5 [(0, .ref (G.1 + 12))] := hl
  obtain ⟨hx, hb, -⟩ := id C
  unfold Gra_parseParts at h
  refine lv_iconst (v := (-1)) hx hb dX2_parseParts_0 (by decide) ?_
  refine lv_istore_n (lv' := [(1, .int (-1)), (0, .ref (G.1 + 12))]) hx hb dX2_parseParts_1 rfl hl (by decide) rfl (fun ls hl => ?_)
  refine lv_iconst (v := 0) hx hb dX2_parseParts_2 (by decide) ?_
  refine lv_istore_n (lv' := [(2, .int 0), (1, .int (-1)), (0, .ref (G.1 + 12))]) hx hb dX2_parseParts_3 rfl hl (by decide) rfl (fun ls hl => ?_)
  obtain ⟨⟨k_45, x1_42, x2_43, M_44⟩, hq_46, h⟩ := ob h
  try dsimp only at h
  refine loopW (E := (E_Gra_parseParts_4 G p l e s m _ below meth c _ )) (w_Gra_parseParts_B4 C  F) F _ _ hq_46 ?_ _ _ _ hS (lv_sub hl [2, 1, 0] rfl)
  by_cases ek_52 : k_45 = 1
  · replace h := ifp ek_52 h
    subst ek_52
    intro H locs ls hS hl
    refine lv_aload_n hx hb dX2_parseParts_51 rfl (lv_at hl 0 rfl) ?_
    refine lv_bipush (v := 59) hx hb dX2_parseParts_52 (by decide) ?_
    obtain ⟨⟨r_49, M_50⟩, hq_51, h⟩ := ob h
    try dsimp only at h
    refine r_thenI hS (r_runV C hS hl.1 cv_X2_94 rfl (c_X2_parseSign l G F 59 M_44  _ hq_51) ⟨by decide, by decide⟩ rfl rfl (Nat.le_of_ble_eq_true rfl) ⟨Nat.zero_le _, Nat.zero_le _⟩ dX2_parseParts_54) (fun H locs hS => ?_)
    exact r_zret C hS hr hlk h dX2_parseParts_57
  · replace h := ifn ek_52 h
    by_cases ek_48 : k_45 = 2
    · replace h := ifp ek_48 h
      subst ek_48
      intro H locs ls hS hl
      refine lv_iconst (v := 0) hx hb dX2_parseParts_147 (by decide) ?_
      exact r_zret C hS hr hlk h dX2_parseParts_148
    · replace h := ifn ek_48 h
      by_cases ek_47 : k_45 = 3
      · replace h := ifp ek_47 h
        subst ek_47
        intro H locs ls hS hl
        refine lv_iconst (v := 0) hx hb dX2_parseParts_155 (by decide) ?_
        exact r_zret C hS hr hlk h dX2_parseParts_156
      · replace h := ifn ek_47 h
        cases h
set_option maxHeartbeats 4000000 in
set_option maxRecDepth 100000 in
theorem w_Gra_parseClause_J39 {G : Gl} {p : Program} {l : Launch} {e : Env} {s : State} {m : MethodId} {args : Array Value} {below : List Frame} {meth : Method} {c : Code} (C : Cx G cX2_parseClause 2 RX2 p s m args c) (hr : meth.sig.returnType = (some .boolean)) (hlk : meth.locks = false) (F : Nat) (x1 : Int32) (M : zM)  (q : Int32 × zM) (h : Gra_parseClause_J39 F x1 M = some q) (H : Heap) (locs : List Loc) (ls : Array Slot) (hS : St G M s H locs) (hl : lv_has ls 2 [(0, .ref (G.1 + 12)), (1, .int x1)]) : W p l e (rmM 7 151) s m args below meth c H locs 0 0 (MQ below (PoI G q) args s 0 0 (gA G)) (F0 m 39 ls []) := by
  obtain ⟨hx, hb, -⟩ := id C
  unfold Gra_parseClause_J39 at h
  refine lv_aload_n hx hb dX2_parseClause_39 rfl (lv_at hl 0 rfl) ?_
  refine r_gR C hS fl_X2_19 rfl rfl rfl dX2_parseClause_40 ?_
  obtain ⟨⟨r_5, M_6⟩, hq_7, h⟩ := ob h
  try dsimp only at h
  refine r_thenI hS (r_runV C hS hl.1 cv_X2_63 rfl (c_X0_isFull l G F  M  _ hq_7) ⟨by decide, by decide⟩ rfl rfl (Nat.le_of_ble_eq_true rfl) ⟨Nat.zero_le _, Nat.zero_le _⟩ dX2_parseClause_43) (fun H locs hS => ?_)
  refine lv_if_eq (tgt := 62) hx hb dX2_parseClause_46 (by decide) (fun c_8 => ?_) (fun c_8 => ?_)
  · replace h := ifp c_8 h
    refine lv_iload_n hx hb dX2_parseClause_62 rfl (lv_at hl 1 rfl) ?_
    refine lv_if_eq (tgt := 73) hx hb dX2_parseClause_63 (by decide) (fun c_9 => ?_) (fun c_9 => ?_)
    · replace h := ifp c_9 h
      refine lv_aload_n hx hb dX2_parseClause_73 rfl (lv_at hl 0 rfl) ?_
      obtain ⟨⟨r_10, M_11⟩, hq_12, h⟩ := ob h
      try dsimp only at h
      refine r_thenI hS (r_runV C hS hl.1 cv_X2_69 rfl (c_X2_parseHead l G F  M_6  _ hq_12) ⟨by decide, by decide⟩ rfl rfl (Nat.le_of_ble_eq_true rfl) ⟨Nat.zero_le _, Nat.zero_le _⟩ dX2_parseClause_74) (fun H locs hS => ?_)
      refine lv_if_eq (tgt := 91) hx hb dX2_parseClause_77 (by decide) (fun c_13 => ?_) (fun c_13 => ?_)
      · replace h := ifp c_13 h
        refine lv_iconst (v := 0) hx hb dX2_parseClause_91 (by decide) ?_
        exact r_zret C hS hr hlk h dX2_parseClause_92
      · replace h := ifn c_13 h
        refine lv_aload_n hx hb dX2_parseClause_80 rfl (lv_at hl 0 rfl) ?_
        obtain ⟨⟨r_14, M_15⟩, hq_16, h⟩ := ob h
        try dsimp only at h
        refine r_thenI hS (r_runV C hS hl.1 cv_X2_72 rfl (c_X2_parseParts l G F  M_11  _ hq_16) ⟨by decide, by decide⟩ rfl rfl (Nat.le_of_ble_eq_true rfl) ⟨Nat.zero_le _, Nat.zero_le _⟩ dX2_parseClause_81) (fun H locs hS => ?_)
        refine lv_if_eq (tgt := 91) hx hb dX2_parseClause_84 (by decide) (fun c_17 => ?_) (fun c_17 => ?_)
        · replace h := ifp c_17 h
          refine lv_iconst (v := 0) hx hb dX2_parseClause_91 (by decide) ?_
          exact r_zret C hS hr hlk h dX2_parseClause_92
        · replace h := ifn c_17 h
          refine lv_iconst (v := 1) hx hb dX2_parseClause_87 (by decide) ?_
          refine lv_goto (tgt := 92) hx hb dX2_parseClause_88 (by decide) ?_
          exact r_zret C hS hr hlk h dX2_parseClause_92
    · replace h := ifn c_9 h
      refine lv_aload_n hx hb dX2_parseClause_66 rfl (lv_at hl 0 rfl) ?_
      obtain ⟨⟨r_18, M_19⟩, hq_20, h⟩ := ob h
      try dsimp only at h
      refine r_thenI hS (r_runV C hS hl.1 cv_X2_66 rfl (c_X2_parseWord l G F  M_6  _ hq_20) ⟨by decide, by decide⟩ rfl rfl (Nat.le_of_ble_eq_true rfl) ⟨Nat.zero_le _, Nat.zero_le _⟩ dX2_parseClause_67) (fun H locs hS => ?_)
      refine lv_goto (tgt := 92) hx hb dX2_parseClause_70 (by decide) ?_
      exact r_zret C hS hr hlk h dX2_parseClause_92
  · replace h := ifn c_8 h
    refine lv_aload_n hx hb dX2_parseClause_49 rfl (lv_at hl 0 rfl) ?_
    refine lv_iconst (v := 5) hx hb dX2_parseClause_50 (by decide) ?_
    refine lv_aload_n hx hb dX2_parseClause_51 rfl (lv_at hl 0 rfl) ?_
    refine r_gR C hS fl_X2_15 rfl rfl rfl dX2_parseClause_52 ?_
    obtain ⟨⟨r_21, M_22⟩, hq_23, h⟩ := ob h
    try dsimp only at h
    refine r_thenI hS (r_runV C hS hl.1 cv_X2_56 rfl (c_X8_at l G F  M_6  _ hq_23) ⟨by decide, by decide⟩ rfl rfl (Nat.le_of_ble_eq_true rfl) ⟨Nat.zero_le _, Nat.zero_le _⟩ dX2_parseClause_55) (fun H locs hS => ?_)
    obtain ⟨⟨r_24, M_25⟩, hq_26, h⟩ := ob h
    try dsimp only at h
    refine r_thenI hS (r_runV C hS hl.1 cv_X2_59 rfl (c_X2_fail l G F 5 r_21 M_22  _ hq_26) ⟨by decide, by decide⟩ rfl rfl (Nat.le_of_ble_eq_true rfl) ⟨Nat.zero_le _, Nat.zero_le _⟩ dX2_parseClause_58) (fun H locs hS => ?_)
    exact r_zret C hS hr hlk h dX2_parseClause_61
set_option maxHeartbeats 4000000 in
set_option maxRecDepth 100000 in
theorem c_X2_parseClause (l : Launch) (G : Gl) (F : Nat)  (M : zM)  (q : Int32 × zM) (h : Gra_parseClause F  M = some q) : Met l yX2_parseClause (wsM yX2_parseClause cX2_parseClause 2 (some .boolean)) (rmM 7 151) (Pre G M [.ref (G.1 + 12)]) (PoI G q) 0 0 (gA G) := by
  refine r_met (own := RX2) rfl (by decide) (Nat.le_of_ble_eq_true rfl) ?_
  intro p e s m below meth c ls C hr hlk hS hl
  have hl : lv_has ls 2 [(0, .ref (G.1 + 12))] := hl
  obtain ⟨hx, hb, -⟩ := id C
  unfold Gra_parseClause at h
  refine lv_aload_n hx hb dX2_parseClause_0 rfl (lv_at hl 0 rfl) ?_
  refine r_gR C hS fl_X2_15 rfl rfl rfl dX2_parseClause_1 ?_
  refine va_ldcS hx hb C.2.2.2.1 (C.2.2.2.2.2.2.2.2.2.2.1 0 (by decide)) dX2_parseClause_4 ?_
  obtain ⟨⟨r_1, M_2⟩, hq_3, h⟩ := ob h
  try dsimp only at h
  refine r_thenI hS (r_runV C hS hl.1 cv_X2_50 rfl (c_X8_wordIs l G F 0 M (by decide) _ hq_3) ⟨by decide, by decide⟩ rfl rfl (Nat.le_of_ble_eq_true rfl) ⟨Nat.zero_le _, Nat.zero_le _⟩ dX2_parseClause_6) (fun H locs hS => ?_)
  refine lv_istore_n (lv' := [(1, .int r_1), (0, .ref (G.1 + 12))]) hx hb dX2_parseClause_9 rfl hl (by decide) rfl (fun ls hl => ?_)
  refine lv_iload_n hx hb dX2_parseClause_10 rfl (lv_at hl 0 rfl) ?_
  refine lv_if_ne (tgt := 39) hx hb dX2_parseClause_11 (by decide) (fun c_4 => ?_) (fun c_4 => ?_)
  · replace h := ifn c_4 h
    exact w_Gra_parseClause_J39 C hr hlk F r_1 M_2  q h _ _ _ hS (lv_sub hl [1, 0] rfl)
  · replace h := ifp c_4 h
    refine lv_aload_n hx hb dX2_parseClause_14 rfl (lv_at hl 1 rfl) ?_
    refine r_gR C hS fl_X2_15 rfl rfl rfl dX2_parseClause_15 ?_
    refine va_ldcS hx hb C.2.2.2.1 (C.2.2.2.2.2.2.2.2.2.2.1 1 (by decide)) dX2_parseClause_18 ?_
    obtain ⟨⟨r_27, M_28⟩, hq_29, h⟩ := ob h
    try dsimp only at h
    refine r_thenI hS (r_runV C hS hl.1 cv_X2_50 rfl (c_X8_wordIs l G F 1 M_2 (by decide) _ hq_29) ⟨by decide, by decide⟩ rfl rfl (Nat.le_of_ble_eq_true rfl) ⟨Nat.zero_le _, Nat.zero_le _⟩ dX2_parseClause_20) (fun H locs hS => ?_)
    refine lv_if_ne (tgt := 39) hx hb dX2_parseClause_23 (by decide) (fun c_30 => ?_) (fun c_30 => ?_)
    · replace h := ifn c_30 h
      exact w_Gra_parseClause_J39 C hr hlk F r_1 M_28  q h _ _ _ hS (lv_sub hl [1, 0] rfl)
    · replace h := ifp c_30 h
      refine lv_aload_n hx hb dX2_parseClause_26 rfl (lv_at hl 1 rfl) ?_
      refine lv_iconst (v := 1) hx hb dX2_parseClause_27 (by decide) ?_
      refine lv_aload_n hx hb dX2_parseClause_28 rfl (lv_at hl 1 rfl) ?_
      refine r_gR C hS fl_X2_15 rfl rfl rfl dX2_parseClause_29 ?_
      obtain ⟨⟨r_31, M_32⟩, hq_33, h⟩ := ob h
      try dsimp only at h
      refine r_thenI hS (r_runV C hS hl.1 cv_X2_56 rfl (c_X8_at l G F  M_28  _ hq_33) ⟨by decide, by decide⟩ rfl rfl (Nat.le_of_ble_eq_true rfl) ⟨Nat.zero_le _, Nat.zero_le _⟩ dX2_parseClause_32) (fun H locs hS => ?_)
      obtain ⟨⟨r_34, M_35⟩, hq_36, h⟩ := ob h
      try dsimp only at h
      refine r_thenI hS (r_runV C hS hl.1 cv_X2_59 rfl (c_X2_fail l G F 1 r_31 M_32  _ hq_36) ⟨by decide, by decide⟩ rfl rfl (Nat.le_of_ble_eq_true rfl) ⟨Nat.zero_le _, Nat.zero_le _⟩ dX2_parseClause_35) (fun H locs hS => ?_)
      exact r_zret C hS hr hlk h dX2_parseClause_38
def E_Gra_parse_27 (G : Gl) (p : Program) (l : Launch) (e : Env) (s : State) (m : MethodId) (args : Array Value) (below : List Frame) (meth : Method) (c : Code) (Q : State → Prop)  : Nat → (Int32 × zM) → Prop := fun k (x1, M) => match k with
  | 0 => ∀ (H : Heap) (locs : List Loc) (ls : Array Slot), St G M s H locs → lv_has ls 2 [(0, .ref (G.1 + 12)), (1, .int x1)] → W p l e (rmM 8 172) s m args below meth c H locs 0 0 Q (F0 m 27 ls [])
  | 1 => ∀ (H : Heap) (locs : List Loc) (ls : Array Slot), St G M s H locs → lv_has ls 2 [] → W p l e (rmM 8 172) s m args below meth c H locs 0 0 Q (F0 m 51 ls [])
  | 2 => ∀ (H : Heap) (locs : List Loc) (ls : Array Slot), St G M s H locs → lv_has ls 2 [] → W p l e (rmM 8 172) s m args below meth c H locs 0 0 Q (F0 m 60 ls [])
  | 3 => ∀ (H : Heap) (locs : List Loc) (ls : Array Slot), St G M s H locs → lv_has ls 2 [] → W p l e (rmM 8 172) s m args below meth c H locs 0 0 Q (F0 m 68 ls [])
  | _ => True
set_option maxHeartbeats 4000000 in
set_option maxRecDepth 100000 in
theorem w_Gra_parse_B27 {G : Gl} {p : Program} {l : Launch} {e : Env} {s : State} {m : MethodId} {args : Array Value} {below : List Frame} {meth : Method} {c : Code} {Q : State → Prop} (C : Cx G cX2_parse 2 RX2 p s m args c)  (F : Nat) : ∀ (σ : (Int32 × zM)) (q : Nat × (Int32 × zM)), Gra_parse_B27 F  σ = some q → (E_Gra_parse_27 G p l e s m args below meth c Q ) q.1 q.2 → (E_Gra_parse_27 G p l e s m args below meth c Q ) 0 σ := by
  intro (x1, M) q h hE H locs ls hS hl
  obtain ⟨hx, hb, -⟩ := id C
  unfold Gra_parse_B27 at h
  try dsimp only at h
  refine lv_iload_n hx hb dX2_parse_27 rfl (lv_at hl 1 rfl) ?_
  refine lv_bipush (v := 12) hx hb dX2_parse_28 (by decide) ?_
  refine lv_icmp_gt (tgt := 68) hx hb dX2_parse_30 (by decide) (fun c_11 => ?_) (fun c_11 => ?_)
  · replace h := ifp c_11 h
    obtain rfl := Option.some.inj h
    exact hE _ _ _ hS (lv_sub hl [] rfl)
  · replace h := ifn c_11 h
    refine lv_aload_n hx hb dX2_parse_33 rfl (lv_at hl 0 rfl) ?_
    refine r_gR C hS fl_X2_15 rfl rfl rfl dX2_parse_34 ?_
    obtain ⟨⟨_r_12, M_13⟩, hq_14, h⟩ := ob h
    try dsimp only at h
    refine r_thenV hS (r_runV C hS hl.1 cv_X2_37 rfl (c_X8_skipBlanks l G F  M  _ hq_14) ⟨by decide, by decide⟩ rfl rfl (Nat.le_of_ble_eq_true rfl) ⟨Nat.zero_le _, Nat.zero_le _⟩ dX2_parse_37) (fun H locs hS => ?_)
    refine lv_aload_n hx hb dX2_parse_40 rfl (lv_at hl 0 rfl) ?_
    refine r_gR C hS fl_X2_15 rfl rfl rfl dX2_parse_41 ?_
    obtain ⟨⟨r_15, M_16⟩, hq_17, h⟩ := ob h
    try dsimp only at h
    refine r_thenI hS (r_runV C hS hl.1 cv_X2_40 rfl (c_X8_current l G F  M_13  _ hq_17) ⟨by decide, by decide⟩ rfl rfl (Nat.le_of_ble_eq_true rfl) ⟨Nat.zero_le _, Nat.zero_le _⟩ dX2_parse_44) (fun H locs hS => ?_)
    refine lv_iconst (v := (-1)) hx hb dX2_parse_47 (by decide) ?_
    refine lv_icmp_ne (tgt := 53) hx hb dX2_parse_48 (by decide) (fun c_18 => ?_) (fun c_18 => ?_)
    · replace h := ifn c_18 h
      refine lv_aload_n hx hb dX2_parse_53 rfl (lv_at hl 0 rfl) ?_
      obtain ⟨⟨r_19, M_20⟩, hq_21, h⟩ := ob h
      try dsimp only at h
      refine r_thenI hS (r_runV C hS hl.1 cv_X2_44 rfl (c_X2_parseClause l G F  M_16  _ hq_21) ⟨by decide, by decide⟩ rfl rfl (Nat.le_of_ble_eq_true rfl) ⟨Nat.zero_le _, Nat.zero_le _⟩ dX2_parse_54) (fun H locs hS => ?_)
      refine lv_if_ne (tgt := 62) hx hb dX2_parse_57 (by decide) (fun c_22 => ?_) (fun c_22 => ?_)
      · replace h := ifn c_22 h
        obtain ⟨x1_23, e_24, h⟩ := olt h
        refine lv_iinc (v := x1_23) (lv' := [(1, .int x1_23), (0, .ref (G.1 + 12))]) hx hb dX2_parse_62 hl (k := 1) rfl (by rw [e_24]; rfl) (by decide) rfl (fun ls hl => ?_)
        refine lv_goto (tgt := 27) hx hb dX2_parse_65 (by decide) ?_
        obtain rfl := Option.some.inj h
        exact hE _ _ _ hS (lv_sub hl [1, 0] rfl)
      · replace h := ifp c_22 h
        obtain rfl := Option.some.inj h
        exact hE _ _ _ hS (lv_sub hl [] rfl)
    · replace h := ifp c_18 h
      obtain rfl := Option.some.inj h
      exact hE _ _ _ hS (lv_sub hl [] rfl)
set_option maxHeartbeats 4000000 in
set_option maxRecDepth 100000 in
theorem c_X2_parse (l : Launch) (G : Gl) (F : Nat)  (M : zM)  (q : Int32 × zM) (h : Gra_parse F  M = some q) : Met l yX2_parse (wsM yX2_parse cX2_parse 2 (some .boolean)) (rmM 8 172) (Pre G M [.ref (G.1 + 12)]) (PoI G q) 0 0 (gA G) := by
  refine r_met (own := RX2) rfl (by decide) (Nat.le_of_ble_eq_true rfl) ?_
  intro p e s m below meth c ls C hr hlk hS hl
  have hl : lv_has ls 2 [(0, .ref (G.1 + 12))] := hl
  obtain ⟨hx, hb, -⟩ := id C
  unfold Gra_parse at h
  refine lv_aload_n hx hb dX2_parse_0 rfl (lv_at hl 0 rfl) ?_
  refine lv_iconst (v := 0) hx hb dX2_parse_1 (by decide) ?_
  obtain ⟨M_1, e_2, h⟩ := olt h
  refine r_pI C hS fp_X2_23 rfl rfl e_2 dX2_parse_2 (fun H locs hS => ?_)
  refine lv_aload_n hx hb dX2_parse_5 rfl (lv_at hl 0 rfl) ?_
  refine lv_iconst (v := (-1)) hx hb dX2_parse_6 (by decide) ?_
  obtain ⟨M_3, e_4, h⟩ := olt h
  refine r_pI C hS fp_X2_9 rfl rfl e_4 dX2_parse_7 (fun H locs hS => ?_)
  refine lv_aload_n hx hb dX2_parse_10 rfl (lv_at hl 0 rfl) ?_
  refine r_gR C hS fl_X2_19 rfl rfl rfl dX2_parse_11 ?_
  obtain ⟨⟨_r_5, M_6⟩, hq_7, h⟩ := ob h
  try dsimp only at h
  refine r_thenV hS (r_runV C hS hl.1 cv_X2_26 rfl (c_X0_empty l G F  M_3  _ hq_7) ⟨by decide, by decide⟩ rfl rfl (Nat.le_of_ble_eq_true rfl) ⟨Nat.zero_le _, Nat.zero_le _⟩ dX2_parse_14) (fun H locs hS => ?_)
  refine lv_aload_n hx hb dX2_parse_17 rfl (lv_at hl 0 rfl) ?_
  refine r_gR C hS fl_X2_15 rfl rfl rfl dX2_parse_18 ?_
  refine lv_iconst (v := 0) hx hb dX2_parse_21 (by decide) ?_
  obtain ⟨⟨_r_8, M_9⟩, hq_10, h⟩ := ob h
  try dsimp only at h
  refine r_thenV hS (r_runV C hS hl.1 cv_X2_31 rfl (c_X8_moveTo l G F 0 M_6  _ hq_10) ⟨by decide, by decide⟩ rfl rfl (Nat.le_of_ble_eq_true rfl) ⟨Nat.zero_le _, Nat.zero_le _⟩ dX2_parse_22) (fun H locs hS => ?_)
  refine lv_iconst (v := 0) hx hb dX2_parse_25 (by decide) ?_
  refine lv_istore_n (lv' := [(1, .int 0), (0, .ref (G.1 + 12))]) hx hb dX2_parse_26 rfl hl (by decide) rfl (fun ls hl => ?_)
  obtain ⟨⟨k_27, x1_25, M_26⟩, hq_28, h⟩ := ob h
  try dsimp only at h
  refine loopW (E := (E_Gra_parse_27 G p l e s m _ below meth c _ )) (w_Gra_parse_B27 C  F) F _ _ hq_28 ?_ _ _ _ hS (lv_sub hl [1, 0] rfl)
  by_cases ek_31 : k_27 = 1
  · replace h := ifp ek_31 h
    subst ek_31
    intro H locs ls hS hl
    refine lv_iconst (v := 1) hx hb dX2_parse_51 (by decide) ?_
    exact r_zret C hS hr hlk h dX2_parse_52
  · replace h := ifn ek_31 h
    by_cases ek_30 : k_27 = 2
    · replace h := ifp ek_30 h
      subst ek_30
      intro H locs ls hS hl
      refine lv_iconst (v := 0) hx hb dX2_parse_60 (by decide) ?_
      exact r_zret C hS hr hlk h dX2_parse_61
    · replace h := ifn ek_30 h
      by_cases ek_29 : k_27 = 3
      · replace h := ifp ek_29 h
        subst ek_29
        intro H locs ls hS hl
        refine lv_iconst (v := 0) hx hb dX2_parse_68 (by decide) ?_
        exact r_zret C hS hr hlk h dX2_parse_69
      · replace h := ifn ek_29 h
        cases h

theorem wob : Cond.code Lib.objectInit ⟨#[0xb1]⟩ 1 none ∈ TG := mT 28 (by decide +kernel) (by decide +kernel)
theorem wobi : Cond.instanceMethod Lib.objectInit ∈ TG := mT 27 (by decide +kernel) (by decide +kernel)
theorem ci_X10_9 : CI RX10 9 yX8_init cX8_init 1 0 := ⟨tw_32, tw_2, tw_33, rfl, by decide +kernel, by decide +kernel, by decide +kernel, Or.inr ⟨"NumberWords", by decide +kernel⟩⟩
theorem ci_X10_18 : CI RX10 18 yX0_init cX0_init 1 0 := ⟨tw_49, tw_3, tw_50, rfl, by decide +kernel, by decide +kernel, by decide +kernel, Or.inr ⟨"NumberWords", by decide +kernel⟩⟩
theorem ci_X10_25 : CI RX10 25 yX2_init cX2_init 3 2 := ⟨tw_94, tw_4, tw_95, rfl, by decide +kernel, by decide +kernel, by decide +kernel, Or.inl tw_93⟩
theorem ci_X10_38 : CI RX10 38 yX9_init cX9_init 1 0 := ⟨tw_114, tw_5, tw_115, rfl, by decide +kernel, by decide +kernel, by decide +kernel, Or.inl tw_113⟩
theorem ci_X10_41 : CI RX10 41 yX4_init cX4_init 2 1 := ⟨tw_183, tw_9, tw_184, rfl, by decide +kernel, by decide +kernel, by decide +kernel, Or.inl tw_182⟩
theorem ci_X10_50 : CI RX10 50 yX5_init cX5_init 1 0 := ⟨tw_218, tw_11, tw_219, rfl, by decide +kernel, by decide +kernel, by decide +kernel, Or.inr ⟨"NumberWords", by decide +kernel⟩⟩
theorem ci_X10_57 : CI RX10 57 yX3_init cX3_init 1 0 := ⟨tw_189, tw_10, tw_190, rfl, by decide +kernel, by decide +kernel, by decide +kernel, Or.inr ⟨"NumberWords", by decide +kernel⟩⟩
theorem ci_X10_67 : CI RX10 67 yX6_init cX6_init 2 1 := ⟨tw_120, tw_6, tw_121, rfl, by decide +kernel, by decide +kernel, by decide +kernel, Or.inl tw_231⟩
theorem ci_X10_76 : CI RX10 76 yX1_init cX1_init 1 0 := ⟨tw_235, tw_12, tw_236, rfl, by decide +kernel, by decide +kernel, by decide +kernel, Or.inr ⟨"NumberWords", by decide +kernel⟩⟩
theorem ci_X10_83 : CI RX10 83 yX7_init cX7_init 1 0 := ⟨tw_248, tw_13, tw_249, rfl, by decide +kernel, by decide +kernel, by decide +kernel, Or.inr ⟨"NumberWords", by decide +kernel⟩⟩
theorem ci_X4_11 : CI RX4 11 yX3_init cX3_init 1 0 := ⟨tw_189, tw_10, tw_190, rfl, by decide +kernel, by decide +kernel, by decide +kernel, Or.inr ⟨"NumberWords", by decide +kernel⟩⟩
theorem ci_X9_11 : CI RX9 11 yX6_init cX6_init 2 1 := ⟨tw_120, tw_6, tw_121, rfl, by decide +kernel, by decide +kernel, by decide +kernel, Or.inl tw_119⟩
theorem ci_L_9 : CI RL 9 yX10_init cX10_init 2 0 := ⟨tw_24, tw_1, tw_25, rfl, by decide +kernel, by decide +kernel, by decide +kernel, Or.inl tw_23⟩
theorem ci_L_12 : CI RL 12 yX11_init cX11_init 2 0 := ⟨tw_888, tw_14, tw_889, rfl, by decide +kernel, by decide +kernel, by decide +kernel, Or.inl tw_887⟩
theorem df_X0 : ∀ j, j < 9 → defaultValue (tyX0 j) = if zT 0 j = true then Value.int 0 else Value.null := by decide
theorem df_X1 : ∀ j, j < 2 → defaultValue (tyX1 j) = if zT 1 j = true then Value.int 0 else Value.null := by decide
theorem df_X2 : ∀ j, j < 4 → defaultValue (tyX2 j) = if zT 2 j = true then Value.int 0 else Value.null := by decide
theorem df_X3 : ∀ j, j < 2 → defaultValue (tyX3 j) = if zT 3 j = true then Value.int 0 else Value.null := by decide
theorem df_X4 : ∀ j, j < 5 → defaultValue (tyX4 j) = if zT 4 j = true then Value.int 0 else Value.null := by decide
theorem df_X5 : ∀ j, j < 2 → defaultValue (tyX5 j) = if zT 5 j = true then Value.int 0 else Value.null := by decide
theorem df_X6 : ∀ j, j < 1 → defaultValue (tyX6 j) = if zT 6 j = true then Value.int 0 else Value.null := by decide
theorem df_X7 : ∀ j, j < 1 → defaultValue (tyX7 j) = if zT 7 j = true then Value.int 0 else Value.null := by decide
theorem df_X8 : ∀ j, j < 3 → defaultValue (tyX8 j) = if zT 8 j = true then Value.int 0 else Value.null := by decide
theorem df_X9 : ∀ j, j < 14 → defaultValue (tyX9 j) = if zT 9 j = true then Value.int 0 else Value.null := by decide
theorem df_X10 : ∀ j, j < 11 → defaultValue (tyX10 j) = if zT 10 j = true then Value.int 0 else Value.null := by decide
theorem df_X11 : ∀ j, j < 47 → defaultValue (tyX11 j) = if zT 11 j = true then Value.int 0 else Value.null := by decide
def gE_fill (G : Gl) (Rf : zRf) (n : Nat) (p : Program) (l : Launch) (e : Env) (s : State) (m : MethodId) (args : Array Value) (below : List Frame) (meth : Method) (c : Code) (Q : State → Prop) (a0 : Nat) (x1 : Int32) (x3 : Int32) : Nat → (Int32 × zM) → Prop := fun k (x2, M) => match k with
  | 0 => ∀ (H : Heap) (locs : List Loc) (ls : Array Slot), StG G Rf n M s H locs → lv_has ls 4 [(0, .ref (G.1 + a0)), (1, .int x1), (2, .int x2), (3, .int x3)] → W p l e (rmM 0 0) s m args below meth c H locs 0 0 Q (F0 m 5 ls [])
  | 1 => ∀ (H : Heap) (locs : List Loc) (ls : Array Slot), StG G Rf n M s H locs → lv_has ls 4 [] → W p l e (rmM 0 0) s m args below meth c H locs 0 0 Q (F0 m 20 ls [])
  | _ => True
set_option maxHeartbeats 4000000 in
set_option maxRecDepth 100000 in
theorem gw_fill {G : Gl} {Rf : zRf} {n : Nat} {p : Program} {l : Launch} {e : Env} {s : State} {m : MethodId} {args : Array Value} {below : List Frame} {meth : Method} {c : Code} {Q : State → Prop} (C : Cx G cJ7_fill_53178 4 RJ7 p s m args c) (a0 : Nat) (x1 : Int32) (x3 : Int32) (k0 : zK a0 = 12) (ha : a0 < n) (F : Nat) : ∀ (σ : (Int32 × zM)) (q : Nat × (Int32 × zM)), JArr_fill_I_B5 F a0 x1 x3 σ = some q → (gE_fill G Rf n p l e s m args below meth c Q a0 x1 x3) q.1 q.2 → (gE_fill G Rf n p l e s m args below meth c Q a0 x1 x3) 0 σ := by
  intro (x2, M) q h hE H locs ls hS hl
  obtain ⟨hx, hb, -⟩ := id C
  unfold JArr_fill_I_B5 at h
  try dsimp only at h
  refine lv_iload_n hx hb dJ7_fill_53178_5 rfl (lv_at hl 2 rfl) ?_
  refine lv_iload_n hx hb dJ7_fill_53178_6 rfl (lv_at hl 3 rfl) ?_
  refine lv_icmp_ge (tgt := 20) hx hb dJ7_fill_53178_7 (by decide) (fun c_3 => ?_) (fun c_3 => ?_)
  · replace h := ifp c_3 h
    obtain rfl := Option.some.inj h
    exact hE _ _ _ hS (lv_sub hl [] rfl)
  · replace h := ifn c_3 h
    refine lv_aload_n hx hb dJ7_fill_53178_10 rfl (lv_at hl 0 rfl) ?_
    refine lv_iload_n hx hb dJ7_fill_53178_11 rfl (lv_at hl 2 rfl) ?_
    refine lv_iload_n hx hb dJ7_fill_53178_12 rfl (lv_at hl 1 rfl) ?_
    obtain ⟨b_4, h⟩ := ift h
    obtain ⟨M_5, e_6, h⟩ := olt h
    refine rG_iast C hS k0 ha rfl b_4 e_6 dJ7_fill_53178_13 (fun H locs hS => ?_)
    obtain ⟨x2_7, e_8, h⟩ := olt h
    refine lv_iinc (v := x2_7) (lv' := [(2, .int x2_7), (0, .ref (G.1 + a0)), (1, .int x1), (3, .int x3)]) hx hb dJ7_fill_53178_14 hl (k := 2) rfl (by rw [e_8]; rfl) (by decide) rfl (fun ls hl => ?_)
    refine lv_goto (tgt := 5) hx hb dJ7_fill_53178_17 (by decide) ?_
    obtain rfl := Option.some.inj h
    exact hE _ _ _ hS (lv_sub hl [1, 2, 0, 3] rfl)
set_option maxHeartbeats 4000000 in
set_option maxRecDepth 100000 in
theorem g_fill (l : Launch) (G : Gl) (Rf : zRf) (n : Nat) (F : Nat) (a0 : Nat) (x1 : Int32) (M : zM) (k0 : zK a0 = 12) (ha : a0 < n) (q : Unit × zM) (h : JArr_fill_I F a0 x1 M = some q) : Met l yJ7_fill_53178 (wsM yJ7_fill_53178 cJ7_fill_53178 4 none) (rmM 0 0) (PreG G Rf n M [.ref (G.1 + a0), .int x1]) (PoG G Rf n q.2) 0 0 (gA G) := by
  refine rG_met (own := RJ7) rfl (by decide) (Nat.le_of_ble_eq_true rfl) ?_
  intro p e s m below meth c ls C hr hlk hin hS hl
  have hl : lv_has ls 4 [(0, .ref (G.1 + a0)), (1, .int x1)] := hl
  obtain ⟨hx, hb, -⟩ := id C
  unfold JArr_fill_I at h
  refine lv_iconst (v := 0) hx hb dJ7_fill_53178_0 (by decide) ?_
  refine lv_istore_n (lv' := [(2, .int 0), (0, .ref (G.1 + a0)), (1, .int x1)]) hx hb dJ7_fill_53178_1 rfl hl (by decide) rfl (fun ls hl => ?_)
  refine lv_aload_n hx hb dJ7_fill_53178_2 rfl (lv_at hl 1 rfl) ?_
  refine rG_alen C hS (v := Int32.ofNat (zN a0)) k0 ha rfl (by rfl) dJ7_fill_53178_3 ?_
  obtain ⟨x3_1, e_2, h⟩ := olt h
  refine r_nI e_2 ?_
  refine lv_istore_n (lv' := [(3, .int x3_1), (2, .int 0), (0, .ref (G.1 + a0)), (1, .int x1)]) hx hb dJ7_fill_53178_4 rfl hl (by decide) rfl (fun ls hl => ?_)
  obtain ⟨⟨k_11, x2_9, M_10⟩, hq_12, h⟩ := ob h
  try dsimp only at h
  refine loopW (E := (gE_fill G Rf n p l e s m _ below meth c _ a0 x1 x3_1)) (gw_fill C a0 x1 x3_1 k0 ha F) F _ _ hq_12 ?_ _ _ _ hS (lv_sub hl [2, 3, 1, 0] rfl)
  by_cases ek_13 : k_11 = 1
  · replace h := ifp ek_13 h
    subst ek_13
    intro H locs ls hS hl
    (obtain rfl := Option.some.inj h; exact rG_vret C hS hr hlk dJ7_fill_53178_20)
  · replace h := ifn ek_13 h
    cases h
set_option maxHeartbeats 4000000 in
set_option maxRecDepth 100000 in
theorem g_restart (l : Launch) (G : Gl) (Rf : zRf) (n : Nat) (F : Nat) (a0 : Nat) (x1 : Int32) (M : zM) (k0 : zK a0 = 9) (ha : a0 + 5 < n) (hR4 : Rf a0 4 = some (a0 + 5)) (q : Unit × zM) (h : Ton_restart F a0 x1 M = some q) : Met l yX9_restart (wsM yX9_restart cX9_restart 2 none) (rmM 1 23) (PreG G Rf n M [.ref (G.1 + a0), .int x1]) (PoG G Rf n q.2) 0 0 (gA G) := by
  refine rG_met (own := RX9) rfl (by decide) (Nat.le_of_ble_eq_true rfl) ?_
  intro p e s m below meth c ls C hr hlk hin hS hl
  have hl : lv_has ls 2 [(0, .ref (G.1 + a0)), (1, .int x1)] := hl
  obtain ⟨hx, hb, -⟩ := id C
  unfold Ton_restart at h
  refine lv_aload_n hx hb dX9_restart_0 rfl (lv_at hl 0 rfl) ?_
  refine lv_iload_n hx hb dX9_restart_1 rfl (lv_at hl 1 rfl) ?_
  obtain ⟨M_1, e_2, h⟩ := olt h
  refine rG_put C hS fp_X9_42 rfl rfl rfl k0 (by omega) e_2 dX9_restart_2 (fun H locs hS => ?_)
  refine lv_aload_n hx hb dX9_restart_5 rfl (lv_at hl 0 rfl) ?_
  refine lv_iconst (v := 0) hx hb dX9_restart_6 (by decide) ?_
  obtain ⟨M_3, e_4, h⟩ := olt h
  refine rG_put C hS fp_X9_46 rfl rfl rfl k0 (by omega) e_4 dX9_restart_7 (fun H locs hS => ?_)
  refine lv_aload_n hx hb dX9_restart_10 rfl (lv_at hl 0 rfl) ?_
  refine rG_gR C hS fl_X9_23 rfl k0 (by omega) hR4 dX9_restart_11 ?_
  refine lv_iconst (v := (-1)) hx hb dX9_restart_14 (by decide) ?_
  obtain ⟨⟨_r_5, M_6⟩, hq_7, h⟩ := ob h
  try dsimp only at h
  refine rG_then hS (rG_runS C hS hl.1 cs_X9_49 (g_fill l G Rf n F (a0 + 5) (-1) M_3 (zKr_9_4 k0) ha _ hq_7) ⟨by decide, by decide⟩ rfl rfl (Nat.le_of_ble_eq_true rfl) ⟨Nat.zero_le _, Nat.zero_le _⟩ dX9_restart_15) (fun H locs hS => ?_)
  refine lv_aload_n hx hb dX9_restart_18 rfl (lv_at hl 0 rfl) ?_
  refine lv_iconst (v := 0) hx hb dX9_restart_19 (by decide) ?_
  obtain ⟨M_8, e_9, h⟩ := olt h
  refine rG_put C hS fp_X9_55 rfl (by decide) (by decide) k0 (by omega) e_9 dX9_restart_20 (fun H locs hS => ?_)
  refine lv_aload_n hx hb dX9_restart_23 rfl (lv_at hl 0 rfl) ?_
  refine lv_iconst (v := 0) hx hb dX9_restart_24 (by decide) ?_
  obtain ⟨M_10, e_11, h⟩ := olt h
  refine rG_put C hS fp_X9_59 rfl (by decide) (by decide) k0 (by omega) e_11 dX9_restart_25 (fun H locs hS => ?_)
  (obtain rfl := Option.some.inj h; exact rG_vret C hS hr hlk dX9_restart_28)
section AAS
variable {G : Gl} {cc : ByteArray} {nL : Nat} {own : String} {p : Program} {l : Launch} {e : Env} {R : Room} {s : State} {m : MethodId} {args : Array Value} {below : List Frame} {meth : Method} {c : Code} {H : Heap} {locs : List Loc} {cells slots : Nat} {Q : State → Prop} {pc : Nat} {ls : Array Slot} {rest : List Value} {M M' : zM} {Rf : zRf} {n : Nat}
theorem rG_aast (C : Cx G cc nL own p s m args c) (hS : StG G Rf n M s H locs) {r : Nat} {i : Int32} (hi : inb i 3 = true) (ha : 13 < n) (hkr : zK r = 9) (hr : r < n) (hdg : decode cc pc = .ok (.aastore, 1))
    (kk : ∀ (H1 : Heap) (locs1 : List Loc), StG G (setR Rf 13 i.toNatClampNeg r) n M s H1 locs1 → W p l e R s m args below meth c H1 locs1 cells slots Q (F0 m (pc + 1) ls rest)) : W p l e R s m args below meth c H locs cells slots Q (F0 m pc ls (.ref (G.1 + r) :: .int i :: .ref (G.1 + 13) :: rest)) := by
  obtain ⟨hx, hb, hml, hown, hts, hK, hX⟩ := C
  obtain ⟨hP, hs, hz, hbs⟩ := hS
  have he : (wE G.1 G.2.2.1 Rf n M)[13]? = some (G.1 + 13, .inl (G.2.2.1 4, 3, .inr (.inr (.inr (.inr (fun j => (Rf 13 j).map (fun r => G.1 + r))))))) := (wE_get ha).trans (by rw [ent_r rfl]; rfl)
  have hv : (wE G.1 G.2.2.1 Rf n M)[r]? = some (G.1 + r, .inr (9, fldL G.1 Rf M 9 r)) := (wE_get hr).trans (by rw [ent_o hkr (by decide)])
  have hin := inb_in hi
  have hlt : i.toNatClampNeg < 3 := Nat.not_le.mp fun q => hin (Or.inr q)
  obtain ⟨r', hr', cellV, g1, g2, g3, -⟩ := hP r _ hv
  have hcls := (hK.1 9 (RX9, TX9, 14) rfl).2
  obtain ⟨kA, comp, k1, k2, k3, -⟩ := (hK.2 4 _ rfl).2
  have hcomp : comp = G.2.1.1 9 := Option.some.inj (k3.symm.trans hcls.1)
  subst hcomp
  obtain ⟨kC, hkC, -⟩ := hcls.2
  refine W.aast hx hb (hP 13 _ he) (fun q h => by cases h) (fun h => by cases h) k1 k2 rfl hkC ⟨fun q => hin (Or.inl q), by show _ < (arrV _ _ _).slots.size; rw [arrV_size]; exact hlt⟩ g1 (fun q h => by rw [g3] at h; cases h) (by rw [g2]; exact hkC) (by rw [g2]; exact va_assign hcls) rfl rfl hdg fun H1 e1 z1 o1 => ?_
  refine kk H1 _ ⟨?_, hs.put z1 o1 (Nat.le_add_right _ _), z1.trans hz, hbs⟩
  rw [← wE_setR ha rfl]
  refine hP.set wE_D he ?_ o1
  rw [ent_r rfl]
  show H1[G.1 + 13]? = some (vp_cell _ _)
  rw [e1, vp_cell_q, vp_cell_q, arrV_store]
  congr 2
  funext q
  by_cases hq : q = i.toNatClampNeg
  · subst hq; simp [updV, setR, va_rf]
  · simp [updV, setR, hq]
end AAS
theorem Fr_rest {Rf : zRf} {n a : Nat} {x : Int32} {M : zM} (h : Fr Rf n M) (ha : a + 5 < n) : Fr Rf n (zRest M a x) := fun b hb => ⟨fun j => by rw [zRest_other (by omega) (by omega)]; exact (h b hb).1 j, (h b hb).2.1, (h b hb).2.2⟩
theorem zN_nm {a : Nat} (h : zK a = 9) : zN (a + 1 + 1) = 5000 := zAll (P := fun a => zN (a + 1 + 1) = 5000) (c := 9) (by decide +kernel) (by decide) h
theorem zN_rn {a : Nat} (h : zK a = 9) : zN (a + 3 + 1) = 5000 := zAll (P := fun a => zN (a + 3 + 1) = 5000) (c := 9) (by decide +kernel) (by decide) h
set_option maxHeartbeats 4000000 in
set_option maxRecDepth 100000 in
theorem g_X3_init (l : Launch) (G : Gl) (a : Nat) (Rf : zRf) (M : zM) (k0 : zK a = 3) (hF : Fr Rf (a + 1) M) : Met l yX3_init (wsM yX3_init cX3_init 1 none) (rmC 1 21 1 5) (PreG G Rf (a + 1) M [.ref (G.1 + a)]) (PoG G (setR Rf a 0 (a + 1)) (a + 2) M) 1 5 (gA G) := by
  refine rG_met (own := RX3) rfl (by decide) (Nat.le_of_ble_eq_true rfl) ?_
  intro p e s m below meth c ls C hr hlk hin hS hl
  have hl : lv_has ls 1 [(0, .ref (G.1 + a))] := hl
  obtain ⟨hx, hb, hml, hown, hts, hK, hX⟩ := id C
  refine lv_aload_n hx hb dX3_init_0 rfl (lv_at hl 0 rfl) ?_
  refine W.objInit hx hb hown (hts _ tw_191) (hts _ wobi) (hts _ wob) rfl (by rw [hml]; exact hl.1) rfl dX3_init_1 (by decide) (Nat.le_of_ble_eq_true rfl) ?_
  refine W.eq (g2 := F0 m 4 ls []) rfl ?_
  refine lv_aload_n hx hb dX3_init_4 rfl (lv_at hl 0 rfl) ?_
  refine lv_iconst (v := 5) hx hb dX3_init_5 (by decide) ?_
  refine rG_new_long C hS (zKr_3_0 k0) hF tw_90 (by decide) (by decide) (zNr_3_0 k0) (by decide) ⟨by decide, by decide⟩ dX3_init_6 (fun H hS => ?_)
  have hF := hF.up (n' := a + 2) (by omega)
  refine rG_pR C hS cl_X3 (k := 0) (by decide) tw_192 rfl hin rfl (ty := (.array .long)) (by decide +kernel) rfl rfl rfl k0 (by omega) dX3_init_8 (fun H locs hS => ?_)
  have hF := Fr.setR (a := a) (k := 0) (r := a + 1) hF (by omega)
  have hS : StG G (setR Rf a 0 (a + 1)) (a + 2) M s H locs := hS
  exact rG_vret C hS hr hlk dX3_init_11
set_option maxHeartbeats 4000000 in
set_option maxRecDepth 100000 in
theorem g_X6_init (l : Launch) (G : Gl) (a : Nat) (x1 : Int32) (Rf : zRf) (M : zM) (N : Nat) (k0 : zK a = 6) (hF : Fr Rf (a + 1) M) (hN0 : ¬ jmx 0 x1 * 5 < 0) (hN : (jmx 0 x1 * 5).toNatClampNeg = N) (hz : zN (a + 1) = N) (hby : N * 8 ≤ 536870912) : Met l yX6_init (wsM yX6_init cX6_init 2 none) (rmC 1 21 1 N) (PreG G Rf (a + 1) M [.ref (G.1 + a), .int x1]) (PoG G (setR Rf a 0 (a + 1)) (a + 2) M) 1 N (gA G) := by
  refine rG_met (own := RX6) rfl (by decide) (Nat.le_of_ble_eq_true rfl) ?_
  intro p e s m below meth c ls C hr hlk hin hS hl
  have hl : lv_has ls 2 [(0, .ref (G.1 + a)), (1, .int x1)] := hl
  obtain ⟨hx, hb, hml, hown, hts, hK, hX⟩ := id C
  refine lv_aload_n hx hb dX6_init_0 rfl (lv_at hl 0 rfl) ?_
  refine W.objInit hx hb hown (hts _ tw_122) (hts _ wobi) (hts _ wob) rfl (by rw [hml]; exact hl.1) rfl dX6_init_1 (Nat.le_refl 1) (Nat.le_of_ble_eq_true rfl) ?_
  refine W.eq (g2 := F0 m 4 ls []) rfl ?_
  refine lv_aload_n hx hb dX6_init_4 rfl (lv_at hl 0 rfl) ?_
  refine lv_iconst (v := 0) hx hb dX6_init_5 (by decide) ?_
  refine lv_iload_n hx hb dX6_init_6 rfl (lv_at hl 1 rfl) ?_
  refine r_jmx C hl.1 tw_123 (Nat.le_refl 1) (Nat.le_of_ble_eq_true rfl) ⟨Nat.zero_le _, Nat.zero_le _⟩ dX6_init_7 ?_
  refine lv_iconst (v := 5) hx hb dX6_init_10 (by decide) ?_
  refine lv_imul hx hb dX6_init_11 ?_
  refine rG_new_long C hS (zKr_6_0 k0) hF tw_90 hN0 hN hz hby ⟨Nat.le_refl _, by rw [Nat.zero_add]; exact Nat.le_refl _⟩ dX6_init_12 (fun H hS => ?_)
  have hF := hF.up (n' := a + 2) (by omega)
  refine rG_pR C hS cl_X6 (k := 0) (by decide) tw_126 rfl hin rfl (ty := (.array .long)) (by decide +kernel) rfl rfl rfl k0 (by omega) dX6_init_14 (fun H locs hS => ?_)
  have hF := Fr.setR (a := a) (k := 0) (r := a + 1) hF (by omega)
  have hS : StG G (setR Rf a 0 (a + 1)) (a + 2) M s H locs := hS
  rw [show 0 + N = N from Nat.zero_add N]
  exact rG_vret C hS hr hlk dX6_init_17
set_option maxHeartbeats 4000000 in
set_option maxRecDepth 100000 in
theorem g_X8_init (l : Launch) (G : Gl) (Rf : zRf) (M : zM) (hF : Fr Rf 2 M) : Met l yX8_init (wsM yX8_init cX8_init 1 none) (rmC 1 21 1 240) (PreG G Rf 2 M [.ref (G.1 + 1)]) (PoG G (setR Rf 1 0 2) 3 M) 1 240 (gA G) := by
  refine rG_met (own := RX8) rfl (by decide) (Nat.le_of_ble_eq_true rfl) ?_
  intro p e s m below meth c ls C hr hlk hin hS hl
  have hl : lv_has ls 1 [(0, .ref (G.1 + 1))] := hl
  obtain ⟨hx, hb, hml, hown, hts, hK, hX⟩ := id C
  refine lv_aload_n hx hb dX8_init_0 rfl (lv_at hl 0 rfl) ?_
  refine W.objInit hx hb hown (hts _ tw_34) (hts _ wobi) (hts _ wob) rfl (by rw [hml]; exact hl.1) rfl dX8_init_1 (by decide) (Nat.le_of_ble_eq_true rfl) ?_
  refine W.eq (g2 := F0 m 4 ls []) rfl ?_
  refine lv_aload_n hx hb dX8_init_4 rfl (lv_at hl 0 rfl) ?_
  refine lv_sipush (v := 240) hx hb dX8_init_5 (by decide) ?_
  refine rG_new_byte C hS rfl hF tw_45 (by decide) (by decide) rfl (by decide) ⟨by decide, by decide⟩ dX8_init_8 (fun H hS => ?_)
  have hF := hF.up (n' := 3) (by omega)
  refine rG_pR C hS cl_X8 (k := 0) (by decide) tw_35 rfl hin rfl (ty := (.array .byte)) (by decide +kernel) rfl rfl rfl rfl (by decide) dX8_init_10 (fun H locs hS => ?_)
  have hF := Fr.setR (a := 1) (k := 0) (r := 2) hF (by decide)
  have hS : StG G (setR Rf 1 0 2) 3 M s H locs := hS
  exact rG_vret C hS hr hlk dX8_init_13
set_option maxHeartbeats 4000000 in
set_option maxRecDepth 100000 in
theorem g_X0_init (l : Launch) (G : Gl) (Rf : zRf) (M : zM) (hF : Fr Rf 4 M) : Met l yX0_init (wsM yX0_init cX0_init 1 none) (rmC 1 21 8 432) (PreG G Rf 4 M [.ref (G.1 + 3)]) (PoG G (setR (setR (setR (setR (setR (setR (setR (setR Rf 3 1 4) 3 2 5) 3 3 6) 3 4 7) 3 5 8) 3 6 9) 3 7 10) 3 8 11) 12 M) 8 432 (gA G) := by
  refine rG_met (own := RX0) rfl (by decide) (Nat.le_of_ble_eq_true rfl) ?_
  intro p e s m below meth c ls C hr hlk hin hS hl
  have hl : lv_has ls 1 [(0, .ref (G.1 + 3))] := hl
  obtain ⟨hx, hb, hml, hown, hts, hK, hX⟩ := id C
  refine lv_aload_n hx hb dX0_init_0 rfl (lv_at hl 0 rfl) ?_
  refine W.objInit hx hb hown (hts _ tw_51) (hts _ wobi) (hts _ wob) rfl (by rw [hml]; exact hl.1) rfl dX0_init_1 (by decide) (Nat.le_of_ble_eq_true rfl) ?_
  refine W.eq (g2 := F0 m 4 ls []) rfl ?_
  refine lv_aload_n hx hb dX0_init_4 rfl (lv_at hl 0 rfl) ?_
  refine lv_bipush (v := 12) hx hb dX0_init_5 (by decide) ?_
  refine rG_new_int C hS rfl hF tw_88 (by decide) (by decide) rfl (by decide) ⟨by decide, by decide⟩ dX0_init_7 (fun H hS => ?_)
  have hF := hF.up (n' := 5) (by omega)
  refine rG_pR C hS cl_X0 (k := 1) (by decide) tw_53 rfl hin rfl (ty := (.array .int)) (by decide +kernel) rfl rfl rfl rfl (by decide) dX0_init_9 (fun H locs hS => ?_)
  have hF := Fr.setR (a := 3) (k := 1) (r := 4) hF (by decide)
  have hS : StG G (setR Rf 3 1 4) 5 M s H locs := hS
  refine lv_aload_n hx hb dX0_init_12 rfl (lv_at hl 0 rfl) ?_
  refine lv_bipush (v := 12) hx hb dX0_init_13 (by decide) ?_
  refine rG_new_int C hS rfl hF tw_88 (by decide) (by decide) rfl (by decide) ⟨by decide, by decide⟩ dX0_init_15 (fun H hS => ?_)
  have hF := hF.up (n' := 6) (by omega)
  refine rG_pR C hS cl_X0 (k := 2) (by decide) tw_55 rfl hin rfl (ty := (.array .int)) (by decide +kernel) rfl rfl rfl rfl (by decide) dX0_init_17 (fun H locs hS => ?_)
  have hF := Fr.setR (a := 3) (k := 2) (r := 5) hF (by decide)
  have hS : StG G (setR (setR Rf 3 1 4) 3 2 5) 6 M s H locs := hS
  refine lv_aload_n hx hb dX0_init_20 rfl (lv_at hl 0 rfl) ?_
  refine lv_bipush (v := 12) hx hb dX0_init_21 (by decide) ?_
  refine rG_new_int C hS rfl hF tw_88 (by decide) (by decide) rfl (by decide) ⟨by decide, by decide⟩ dX0_init_23 (fun H hS => ?_)
  have hF := hF.up (n' := 7) (by omega)
  refine rG_pR C hS cl_X0 (k := 3) (by decide) tw_57 rfl hin rfl (ty := (.array .int)) (by decide +kernel) rfl rfl rfl rfl (by decide) dX0_init_25 (fun H locs hS => ?_)
  have hF := Fr.setR (a := 3) (k := 3) (r := 6) hF (by decide)
  have hS : StG G (setR (setR (setR Rf 3 1 4) 3 2 5) 3 3 6) 7 M s H locs := hS
  refine lv_aload_n hx hb dX0_init_28 rfl (lv_at hl 0 rfl) ?_
  refine lv_bipush (v := 12) hx hb dX0_init_29 (by decide) ?_
  refine rG_new_int C hS rfl hF tw_88 (by decide) (by decide) rfl (by decide) ⟨by decide, by decide⟩ dX0_init_31 (fun H hS => ?_)
  have hF := hF.up (n' := 8) (by omega)
  refine rG_pR C hS cl_X0 (k := 4) (by decide) tw_59 rfl hin rfl (ty := (.array .int)) (by decide +kernel) rfl rfl rfl rfl (by decide) dX0_init_33 (fun H locs hS => ?_)
  have hF := Fr.setR (a := 3) (k := 4) (r := 7) hF (by decide)
  have hS : StG G (setR (setR (setR (setR Rf 3 1 4) 3 2 5) 3 3 6) 3 4 7) 8 M s H locs := hS
  refine lv_aload_n hx hb dX0_init_36 rfl (lv_at hl 0 rfl) ?_
  refine lv_bipush (v := 96) hx hb dX0_init_37 (by decide) ?_
  refine rG_new_int C hS rfl hF tw_88 (by decide) (by decide) rfl (by decide) ⟨by decide, by decide⟩ dX0_init_39 (fun H hS => ?_)
  have hF := hF.up (n' := 9) (by omega)
  refine rG_pR C hS cl_X0 (k := 5) (by decide) tw_61 rfl hin rfl (ty := (.array .int)) (by decide +kernel) rfl rfl rfl rfl (by decide) dX0_init_41 (fun H locs hS => ?_)
  have hF := Fr.setR (a := 3) (k := 5) (r := 8) hF (by decide)
  have hS : StG G (setR (setR (setR (setR (setR Rf 3 1 4) 3 2 5) 3 3 6) 3 4 7) 3 5 8) 9 M s H locs := hS
  refine lv_aload_n hx hb dX0_init_44 rfl (lv_at hl 0 rfl) ?_
  refine lv_bipush (v := 96) hx hb dX0_init_45 (by decide) ?_
  refine rG_new_boolean C hS rfl hF tw_89 (by decide) (by decide) rfl (by decide) ⟨by decide, by decide⟩ dX0_init_47 (fun H hS => ?_)
  have hF := hF.up (n' := 10) (by omega)
  refine rG_pR C hS cl_X0 (k := 6) (by decide) tw_63 rfl hin rfl (ty := (.array .boolean)) (by decide +kernel) rfl rfl rfl rfl (by decide) dX0_init_49 (fun H locs hS => ?_)
  have hF := Fr.setR (a := 3) (k := 6) (r := 9) hF (by decide)
  have hS : StG G (setR (setR (setR (setR (setR (setR Rf 3 1 4) 3 2 5) 3 3 6) 3 4 7) 3 5 8) 3 6 9) 10 M s H locs := hS
  refine lv_aload_n hx hb dX0_init_52 rfl (lv_at hl 0 rfl) ?_
  refine lv_bipush (v := 96) hx hb dX0_init_53 (by decide) ?_
  refine rG_new_long C hS rfl hF tw_90 (by decide) (by decide) rfl (by decide) ⟨by decide, by decide⟩ dX0_init_55 (fun H hS => ?_)
  have hF := hF.up (n' := 11) (by omega)
  refine rG_pR C hS cl_X0 (k := 7) (by decide) tw_65 rfl hin rfl (ty := (.array .long)) (by decide +kernel) rfl rfl rfl rfl (by decide) dX0_init_57 (fun H locs hS => ?_)
  have hF := Fr.setR (a := 3) (k := 7) (r := 10) hF (by decide)
  have hS : StG G (setR (setR (setR (setR (setR (setR (setR Rf 3 1 4) 3 2 5) 3 3 6) 3 4 7) 3 5 8) 3 6 9) 3 7 10) 11 M s H locs := hS
  refine lv_aload_n hx hb dX0_init_60 rfl (lv_at hl 0 rfl) ?_
  refine lv_bipush (v := 96) hx hb dX0_init_61 (by decide) ?_
  refine rG_new_int C hS rfl hF tw_88 (by decide) (by decide) rfl (by decide) ⟨by decide, by decide⟩ dX0_init_63 (fun H hS => ?_)
  have hF := hF.up (n' := 12) (by omega)
  refine rG_pR C hS cl_X0 (k := 8) (by decide) tw_67 rfl hin rfl (ty := (.array .int)) (by decide +kernel) rfl rfl rfl rfl (by decide) dX0_init_65 (fun H locs hS => ?_)
  have hF := Fr.setR (a := 3) (k := 8) (r := 11) hF (by decide)
  have hS : StG G (setR (setR (setR (setR (setR (setR (setR (setR Rf 3 1 4) 3 2 5) 3 3 6) 3 4 7) 3 5 8) 3 6 9) 3 7 10) 3 8 11) 12 M s H locs := hS
  exact rG_vret C hS hr hlk dX0_init_68
set_option maxHeartbeats 4000000 in
set_option maxRecDepth 100000 in
theorem g_X5_init (l : Launch) (G : Gl) (Rf : zRf) (M : zM) (hF : Fr Rf 51 M) : Met l yX5_init (wsM yX5_init cX5_init 1 none) (rmC 1 21 2 2000) (PreG G Rf 51 M [.ref (G.1 + 50)]) (PoG G (setR (setR Rf 50 0 51) 50 1 52) 53 M) 2 2000 (gA G) := by
  refine rG_met (own := RX5) rfl (by decide) (Nat.le_of_ble_eq_true rfl) ?_
  intro p e s m below meth c ls C hr hlk hin hS hl
  have hl : lv_has ls 1 [(0, .ref (G.1 + 50))] := hl
  obtain ⟨hx, hb, hml, hown, hts, hK, hX⟩ := id C
  refine lv_aload_n hx hb dX5_init_0 rfl (lv_at hl 0 rfl) ?_
  refine W.objInit hx hb hown (hts _ tw_220) (hts _ wobi) (hts _ wob) rfl (by rw [hml]; exact hl.1) rfl dX5_init_1 (by decide) (Nat.le_of_ble_eq_true rfl) ?_
  refine W.eq (g2 := F0 m 4 ls []) rfl ?_
  refine lv_aload_n hx hb dX5_init_4 rfl (lv_at hl 0 rfl) ?_
  refine lv_sipush (v := 1000) hx hb dX5_init_5 (by decide) ?_
  refine rG_new_int C hS rfl hF tw_88 (by decide) (by decide) rfl (by decide) ⟨by decide, by decide⟩ dX5_init_8 (fun H hS => ?_)
  have hF := hF.up (n' := 52) (by omega)
  refine rG_pR C hS cl_X5 (k := 0) (by decide) tw_221 rfl hin rfl (ty := (.array .int)) (by decide +kernel) rfl rfl rfl rfl (by decide) dX5_init_10 (fun H locs hS => ?_)
  have hF := Fr.setR (a := 50) (k := 0) (r := 51) hF (by decide)
  have hS : StG G (setR Rf 50 0 51) 52 M s H locs := hS
  refine lv_aload_n hx hb dX5_init_13 rfl (lv_at hl 0 rfl) ?_
  refine lv_sipush (v := 1000) hx hb dX5_init_14 (by decide) ?_
  refine rG_new_int C hS rfl hF tw_88 (by decide) (by decide) rfl (by decide) ⟨by decide, by decide⟩ dX5_init_17 (fun H hS => ?_)
  have hF := hF.up (n' := 53) (by omega)
  refine rG_pR C hS cl_X5 (k := 1) (by decide) tw_222 rfl hin rfl (ty := (.array .int)) (by decide +kernel) rfl rfl rfl rfl (by decide) dX5_init_19 (fun H locs hS => ?_)
  have hF := Fr.setR (a := 50) (k := 1) (r := 52) hF (by decide)
  have hS : StG G (setR (setR Rf 50 0 51) 50 1 52) 53 M s H locs := hS
  exact rG_vret C hS hr hlk dX5_init_22
set_option maxHeartbeats 4000000 in
set_option maxRecDepth 100000 in
theorem g_X1_init (l : Launch) (G : Gl) (Rf : zRf) (M : zM) (hF : Fr Rf 60 M) : Met l yX1_init (wsM yX1_init cX1_init 1 none) (rmC 1 21 1 32) (PreG G Rf 60 M [.ref (G.1 + 59)]) (PoG G (setR Rf 59 0 60) 61 M) 1 32 (gA G) := by
  refine rG_met (own := RX1) rfl (by decide) (Nat.le_of_ble_eq_true rfl) ?_
  intro p e s m below meth c ls C hr hlk hin hS hl
  have hl : lv_has ls 1 [(0, .ref (G.1 + 59))] := hl
  obtain ⟨hx, hb, hml, hown, hts, hK, hX⟩ := id C
  refine lv_aload_n hx hb dX1_init_0 rfl (lv_at hl 0 rfl) ?_
  refine W.objInit hx hb hown (hts _ tw_237) (hts _ wobi) (hts _ wob) rfl (by rw [hml]; exact hl.1) rfl dX1_init_1 (by decide) (Nat.le_of_ble_eq_true rfl) ?_
  refine W.eq (g2 := F0 m 4 ls []) rfl ?_
  refine lv_aload_n hx hb dX1_init_4 rfl (lv_at hl 0 rfl) ?_
  refine lv_bipush (v := 32) hx hb dX1_init_5 (by decide) ?_
  refine rG_new_long C hS rfl hF tw_90 (by decide) (by decide) rfl (by decide) ⟨by decide, by decide⟩ dX1_init_7 (fun H hS => ?_)
  have hF := hF.up (n' := 61) (by omega)
  refine rG_pR C hS cl_X1 (k := 0) (by decide) tw_238 rfl hin rfl (ty := (.array .long)) (by decide +kernel) rfl rfl rfl rfl (by decide) dX1_init_9 (fun H locs hS => ?_)
  have hF := Fr.setR (a := 59) (k := 0) (r := 60) hF (by decide)
  have hS : StG G (setR Rf 59 0 60) 61 M s H locs := hS
  exact rG_vret C hS hr hlk dX1_init_12
set_option maxHeartbeats 4000000 in
set_option maxRecDepth 100000 in
theorem g_X7_init (l : Launch) (G : Gl) (Rf : zRf) (M : zM) (hF : Fr Rf 62 M) : Met l yX7_init (wsM yX7_init cX7_init 1 none) (rmC 1 21 1 9) (PreG G Rf 62 M [.ref (G.1 + 61)]) (PoG G (setR Rf 61 0 62) 63 M) 1 9 (gA G) := by
  refine rG_met (own := RX7) rfl (by decide) (Nat.le_of_ble_eq_true rfl) ?_
  intro p e s m below meth c ls C hr hlk hin hS hl
  have hl : lv_has ls 1 [(0, .ref (G.1 + 61))] := hl
  obtain ⟨hx, hb, hml, hown, hts, hK, hX⟩ := id C
  refine lv_aload_n hx hb dX7_init_0 rfl (lv_at hl 0 rfl) ?_
  refine W.objInit hx hb hown (hts _ tw_250) (hts _ wobi) (hts _ wob) rfl (by rw [hml]; exact hl.1) rfl dX7_init_1 (by decide) (Nat.le_of_ble_eq_true rfl) ?_
  refine W.eq (g2 := F0 m 4 ls []) rfl ?_
  refine lv_aload_n hx hb dX7_init_4 rfl (lv_at hl 0 rfl) ?_
  refine lv_bipush (v := 9) hx hb dX7_init_5 (by decide) ?_
  refine rG_new_int C hS rfl hF tw_88 (by decide) (by decide) rfl (by decide) ⟨by decide, by decide⟩ dX7_init_7 (fun H hS => ?_)
  have hF := hF.up (n' := 63) (by omega)
  refine rG_pR C hS cl_X7 (k := 0) (by decide) tw_251 rfl hin rfl (ty := (.array .int)) (by decide +kernel) rfl rfl rfl rfl (by decide) dX7_init_9 (fun H locs hS => ?_)
  have hF := Fr.setR (a := 61) (k := 0) (r := 62) hF (by decide)
  have hS : StG G (setR Rf 61 0 62) 63 M s H locs := hS
  exact rG_vret C hS hr hlk dX7_init_12
set_option maxHeartbeats 4000000 in
set_option maxRecDepth 100000 in
theorem g_X2_init (l : Launch) (G : Gl) (Rf : zRf) (M : zM) (hF : Fr Rf 13 M) : Met l yX2_init (wsM yX2_init cX2_init 3 none) (rmC 1 21 0 0) (PreG G Rf 13 M [.ref (G.1 + 12), .ref (G.1 + 1), .ref (G.1 + 3)]) (PoG G (setR (setR Rf 12 0 1) 12 1 3) 13 (zI M 12 3 (-1))) 0 0 (gA G) := by
  refine rG_met (own := RX2) rfl (by decide) (Nat.le_of_ble_eq_true rfl) ?_
  intro p e s m below meth c ls C hr hlk hin hS hl
  have hl : lv_has ls 3 [(0, .ref (G.1 + 12)), (1, .ref (G.1 + 1)), (2, .ref (G.1 + 3))] := hl
  obtain ⟨hx, hb, hml, hown, hts, hK, hX⟩ := id C
  refine lv_aload_n hx hb dX2_init_0 rfl (lv_at hl 0 rfl) ?_
  refine W.objInit hx hb hown (hts _ tw_96) (hts _ wobi) (hts _ wob) rfl (by rw [hml]; exact hl.1) rfl dX2_init_1 (by decide) (Nat.le_of_ble_eq_true rfl) ?_
  refine W.eq (g2 := F0 m 4 ls []) rfl ?_
  refine lv_aload_n hx hb dX2_init_4 rfl (lv_at hl 0 rfl) ?_
  refine lv_iconst (v := (-1)) hx hb dX2_init_5 (by decide) ?_
  refine rG_put C hS fp_X2_9 rfl (by decide) (by decide) rfl (by decide) rfl dX2_init_6 (fun H locs hS => ?_)
  have hF := hF.zI (a := 12) (k := 3) (v := (-1)) (by decide)
  have hS : StG G Rf 13 (zI M 12 3 (-1)) s H locs := hS
  refine lv_aload_n hx hb dX2_init_9 rfl (lv_at hl 0 rfl) ?_
  refine lv_aload_n hx hb dX2_init_10 rfl (lv_at hl 1 rfl) ?_
  refine rG_pR C hS cl_X2 (k := 0) (by decide) tw_97 rfl hin rfl (ty := (.object "NumberWords$Text")) (by decide +kernel) rfl rfl rfl rfl (by decide) dX2_init_11 (fun H locs hS => ?_)
  have hF := Fr.setR (a := 12) (k := 0) (r := 1) hF (by decide)
  have hS : StG G (setR Rf 12 0 1) 13 (zI M 12 3 (-1)) s H locs := hS
  refine lv_aload_n hx hb dX2_init_14 rfl (lv_at hl 0 rfl) ?_
  refine lv_aload_n hx hb dX2_init_15 rfl (lv_at hl 2 rfl) ?_
  refine rG_pR C hS cl_X2 (k := 1) (by decide) tw_98 rfl hin rfl (ty := (.object "NumberWords$Clauses")) (by decide +kernel) rfl rfl rfl rfl (by decide) dX2_init_16 (fun H locs hS => ?_)
  have hF := Fr.setR (a := 12) (k := 1) (r := 3) hF (by decide)
  have hS : StG G (setR (setR Rf 12 0 1) 12 1 3) 13 (zI M 12 3 (-1)) s H locs := hS
  exact rG_vret C hS hr hlk dX2_init_19
set_option maxHeartbeats 4000000 in
set_option maxRecDepth 100000 in
theorem g_X9_init (l : Launch) (G : Gl) (F : Nat) (hFu : 1000 < F) (a : Nat) (Rf : zRf) (M : zM) (k0 : zK a = 9) (hF : Fr Rf (a + 1) M) : Met l yX9_init (wsM yX9_init cX9_init 1 none) (rmC 2 44 9 15002) (PreG G Rf (a + 1) M [.ref (G.1 + a)]) (PoG G (setR (setR (setR (setR (setR (setR (setR (setR (setR Rf (a + 1) 0 (a + 2)) a 2 (a + 1)) (a + 3) 0 (a + 4)) a 3 (a + 3)) a 4 (a + 5)) a 5 (a + 6)) a 6 (a + 7)) a 7 (a + 8)) a 8 (a + 9)) (a + 10) (zRest M a 0)) 9 15002 (gA G) := by
  refine rG_met (own := RX9) rfl (by decide) (Nat.le_of_ble_eq_true rfl) ?_
  intro p e s m below meth c ls C hr hlk hin hS hl
  have hl : lv_has ls 1 [(0, .ref (G.1 + a))] := hl
  obtain ⟨hx, hb, hml, hown, hts, hK, hX⟩ := id C
  refine lv_aload_n hx hb dX9_init_0 rfl (lv_at hl 0 rfl) ?_
  refine W.objInit hx hb hown (hts _ tw_116) (hts _ wobi) (hts _ wob) rfl (by rw [hml]; exact hl.1) rfl dX9_init_1 (by decide) (Nat.le_of_ble_eq_true rfl) ?_
  refine W.eq (g2 := F0 m 4 ls []) rfl ?_
  refine lv_aload_n hx hb dX9_init_4 rfl (lv_at hl 0 rfl) ?_
  refine rG_new C hS cl_X6 (zKr_9_2 k0) hF tw_117 tw_118 tw_6 df_X6 ⟨by decide, by decide⟩ dX9_init_5 (fun H hS => ?_)
  have hF := hF.up (n' := a + 2) (by omega)
  refine lv_dup hx hb dX9_init_8 rfl ?_
  refine lv_sipush (v := 1000) hx hb dX9_init_9 (by decide) ?_
  refine rG_then hS (rG_runI C hS hl.1 ci_X9_11 (g_X6_init l G (a + 1) 1000 Rf M 5000 (zKr_9_2 k0) hF (by decide) (by decide) (zN_nm k0) (by decide)) ⟨by decide, by decide⟩ rfl rfl (Nat.le_of_ble_eq_true rfl) ⟨by decide, by decide⟩ dX9_init_12) (fun H locs hS => ?_)
  have hS : StG G (setR Rf (a + 1) 0 (a + 2)) (a + 3) M s H locs := hS
  have hF : Fr (setR Rf (a + 1) 0 (a + 2)) (a + 3) M := (Fr.setR (a := a + 1) (k := 0) (r := a + 2) (hF.up (n' := a + 3) (by omega)) (by omega))
  refine rG_pR C hS cl_X9 (k := 2) (by decide) tw_139 rfl hin rfl (ty := (.object "NumberWords$Spellings")) (by decide +kernel) rfl rfl rfl k0 (by omega) dX9_init_15 (fun H locs hS => ?_)
  have hF := Fr.setR (a := a) (k := 2) (r := a + 1) hF (by omega)
  have hS : StG G (setR (setR Rf (a + 1) 0 (a + 2)) a 2 (a + 1)) (a + 3) M s H locs := hS
  refine lv_aload_n hx hb dX9_init_18 rfl (lv_at hl 0 rfl) ?_
  refine rG_new C hS cl_X6 (zKr_9_3 k0) hF tw_117 tw_118 tw_6 df_X6 ⟨by decide, by decide⟩ dX9_init_19 (fun H hS => ?_)
  have hF := hF.up (n' := a + 4) (by omega)
  refine lv_dup hx hb dX9_init_22 rfl ?_
  refine lv_sipush (v := 1000) hx hb dX9_init_23 (by decide) ?_
  refine rG_then hS (rG_runI C hS hl.1 ci_X9_11 (g_X6_init l G (a + 3) 1000 (setR (setR Rf (a + 1) 0 (a + 2)) a 2 (a + 1)) M 5000 (zKr_9_3 k0) hF (by decide) (by decide) (zN_rn k0) (by decide)) ⟨by decide, by decide⟩ rfl rfl (Nat.le_of_ble_eq_true rfl) ⟨by decide, by decide⟩ dX9_init_26) (fun H locs hS => ?_)
  have hS : StG G (setR (setR (setR Rf (a + 1) 0 (a + 2)) a 2 (a + 1)) (a + 3) 0 (a + 4)) (a + 5) M s H locs := hS
  have hF : Fr (setR (setR (setR Rf (a + 1) 0 (a + 2)) a 2 (a + 1)) (a + 3) 0 (a + 4)) (a + 5) M := (Fr.setR (a := a + 3) (k := 0) (r := a + 4) (hF.up (n' := a + 5) (by omega)) (by omega))
  refine rG_pR C hS cl_X9 (k := 3) (by decide) tw_140 rfl hin rfl (ty := (.object "NumberWords$Spellings")) (by decide +kernel) rfl rfl rfl k0 (by omega) dX9_init_29 (fun H locs hS => ?_)
  have hF := Fr.setR (a := a) (k := 3) (r := a + 3) hF (by omega)
  have hS : StG G (setR (setR (setR (setR Rf (a + 1) 0 (a + 2)) a 2 (a + 1)) (a + 3) 0 (a + 4)) a 3 (a + 3)) (a + 5) M s H locs := hS
  refine lv_aload_n hx hb dX9_init_32 rfl (lv_at hl 0 rfl) ?_
  refine lv_sipush (v := 1000) hx hb dX9_init_33 (by decide) ?_
  refine rG_new_int C hS (zKr_9_4 k0) hF tw_88 (by decide) (by decide) (zNr_9_4 k0) (by decide) ⟨by decide, by decide⟩ dX9_init_36 (fun H hS => ?_)
  have hF := hF.up (n' := a + 6) (by omega)
  refine rG_pR C hS cl_X9 (k := 4) (by decide) tw_141 rfl hin rfl (ty := (.array .int)) (by decide +kernel) rfl rfl rfl k0 (by omega) dX9_init_38 (fun H locs hS => ?_)
  have hF := Fr.setR (a := a) (k := 4) (r := a + 5) hF (by omega)
  have hS : StG G (setR (setR (setR (setR (setR Rf (a + 1) 0 (a + 2)) a 2 (a + 1)) (a + 3) 0 (a + 4)) a 3 (a + 3)) a 4 (a + 5)) (a + 6) M s H locs := hS
  refine lv_aload_n hx hb dX9_init_41 rfl (lv_at hl 0 rfl) ?_
  refine lv_sipush (v := 1000) hx hb dX9_init_42 (by decide) ?_
  refine rG_new_int C hS (zKr_9_5 k0) hF tw_88 (by decide) (by decide) (zNr_9_5 k0) (by decide) ⟨by decide, by decide⟩ dX9_init_45 (fun H hS => ?_)
  have hF := hF.up (n' := a + 7) (by omega)
  refine rG_pR C hS cl_X9 (k := 5) (by decide) tw_142 rfl hin rfl (ty := (.array .int)) (by decide +kernel) rfl rfl rfl k0 (by omega) dX9_init_47 (fun H locs hS => ?_)
  have hF := Fr.setR (a := a) (k := 5) (r := a + 6) hF (by omega)
  have hS : StG G (setR (setR (setR (setR (setR (setR Rf (a + 1) 0 (a + 2)) a 2 (a + 1)) (a + 3) 0 (a + 4)) a 3 (a + 3)) a 4 (a + 5)) a 5 (a + 6)) (a + 7) M s H locs := hS
  refine lv_aload_n hx hb dX9_init_50 rfl (lv_at hl 0 rfl) ?_
  refine lv_sipush (v := 1000) hx hb dX9_init_51 (by decide) ?_
  refine rG_new_int C hS (zKr_9_6 k0) hF tw_88 (by decide) (by decide) (zNr_9_6 k0) (by decide) ⟨by decide, by decide⟩ dX9_init_54 (fun H hS => ?_)
  have hF := hF.up (n' := a + 8) (by omega)
  refine rG_pR C hS cl_X9 (k := 6) (by decide) tw_143 rfl hin rfl (ty := (.array .int)) (by decide +kernel) rfl rfl rfl k0 (by omega) dX9_init_56 (fun H locs hS => ?_)
  have hF := Fr.setR (a := a) (k := 6) (r := a + 7) hF (by omega)
  have hS : StG G (setR (setR (setR (setR (setR (setR (setR Rf (a + 1) 0 (a + 2)) a 2 (a + 1)) (a + 3) 0 (a + 4)) a 3 (a + 3)) a 4 (a + 5)) a 5 (a + 6)) a 6 (a + 7)) (a + 8) M s H locs := hS
  refine lv_aload_n hx hb dX9_init_59 rfl (lv_at hl 0 rfl) ?_
  refine lv_sipush (v := 1000) hx hb dX9_init_60 (by decide) ?_
  refine rG_new_int C hS (zKr_9_7 k0) hF tw_88 (by decide) (by decide) (zNr_9_7 k0) (by decide) ⟨by decide, by decide⟩ dX9_init_63 (fun H hS => ?_)
  have hF := hF.up (n' := a + 9) (by omega)
  refine rG_pR C hS cl_X9 (k := 7) (by decide) tw_144 rfl hin rfl (ty := (.array .int)) (by decide +kernel) rfl rfl rfl k0 (by omega) dX9_init_65 (fun H locs hS => ?_)
  have hF := Fr.setR (a := a) (k := 7) (r := a + 8) hF (by omega)
  have hS : StG G (setR (setR (setR (setR (setR (setR (setR (setR Rf (a + 1) 0 (a + 2)) a 2 (a + 1)) (a + 3) 0 (a + 4)) a 3 (a + 3)) a 4 (a + 5)) a 5 (a + 6)) a 6 (a + 7)) a 7 (a + 8)) (a + 9) M s H locs := hS
  refine lv_aload_n hx hb dX9_init_68 rfl (lv_at hl 0 rfl) ?_
  refine lv_sipush (v := 1000) hx hb dX9_init_69 (by decide) ?_
  refine rG_new_int C hS (zKr_9_8 k0) hF tw_88 (by decide) (by decide) (zNr_9_8 k0) (by decide) ⟨by decide, by decide⟩ dX9_init_72 (fun H hS => ?_)
  have hF := hF.up (n' := a + 10) (by omega)
  refine rG_pR C hS cl_X9 (k := 8) (by decide) tw_145 rfl hin rfl (ty := (.array .int)) (by decide +kernel) rfl rfl rfl k0 (by omega) dX9_init_74 (fun H locs hS => ?_)
  have hF := Fr.setR (a := a) (k := 8) (r := a + 9) hF (by omega)
  have hS : StG G (setR (setR (setR (setR (setR (setR (setR (setR (setR Rf (a + 1) 0 (a + 2)) a 2 (a + 1)) (a + 3) 0 (a + 4)) a 3 (a + 3)) a 4 (a + 5)) a 5 (a + 6)) a 6 (a + 7)) a 7 (a + 8)) a 8 (a + 9)) (a + 10) M s H locs := hS
  refine lv_aload_n hx hb dX9_init_77 rfl (lv_at hl 0 rfl) ?_
  refine lv_iconst (v := 0) hx hb dX9_init_78 (by decide) ?_
  refine rG_then hS (rG_runV C hS hl.1 cv_X9_39 k0 (by omega) (g_restart l G _ _ F a 0 M k0 (by omega) (by simp [setR]) _ (restart_ok k0 hFu)) ⟨by decide, by decide⟩ rfl rfl (Nat.le_of_ble_eq_true rfl) ⟨by decide, by decide⟩ dX9_init_79) (fun H locs hS => ?_)
  exact rG_vret C hS hr hlk dX9_init_82
set_option maxHeartbeats 4000000 in
set_option maxRecDepth 100000 in
theorem g_X4_init (l : Launch) (G : Gl) (Rf : zRf) (M : zM) (hF : Fr Rf 45 M) : Met l yX4_init (wsM yX4_init cX4_init 2 none) (rmC 2 41 5 1014) (PreG G Rf 45 M [.ref (G.1 + 44), .ref (G.1 + 3)]) (PoG G (setR (setR (setR (setR (setR (setR Rf 45 0 46) 44 1 45) 47 0 48) 44 2 47) 44 3 49) 44 0 3) 50 M) 5 1014 (gA G) := by
  refine rG_met (own := RX4) rfl (by decide) (Nat.le_of_ble_eq_true rfl) ?_
  intro p e s m below meth c ls C hr hlk hin hS hl
  have hl : lv_has ls 2 [(0, .ref (G.1 + 44)), (1, .ref (G.1 + 3))] := hl
  obtain ⟨hx, hb, hml, hown, hts, hK, hX⟩ := id C
  refine lv_aload_n hx hb dX4_init_0 rfl (lv_at hl 0 rfl) ?_
  refine W.objInit hx hb hown (hts _ tw_185) (hts _ wobi) (hts _ wob) rfl (by rw [hml]; exact hl.1) rfl dX4_init_1 (by decide) (Nat.le_of_ble_eq_true rfl) ?_
  refine W.eq (g2 := F0 m 4 ls []) rfl ?_
  refine lv_aload_n hx hb dX4_init_4 rfl (lv_at hl 0 rfl) ?_
  refine rG_new C hS cl_X3 rfl hF tw_186 tw_187 tw_10 df_X3 ⟨by decide, by decide⟩ dX4_init_5 (fun H hS => ?_)
  have hF := hF.up (n' := 46) (by omega)
  refine lv_dup hx hb dX4_init_8 rfl ?_
  refine rG_then hS (rG_runI C hS hl.1 ci_X4_11 (g_X3_init l G 45 Rf M rfl hF) ⟨by decide, by decide⟩ rfl rfl (Nat.le_of_ble_eq_true rfl) ⟨by decide, by decide⟩ dX4_init_9) (fun H locs hS => ?_)
  have hS : StG G (setR Rf 45 0 46) 47 M s H locs := hS
  have hF : Fr (setR Rf 45 0 46) 47 M := (Fr.setR (a := 45) (k := 0) (r := 46) (hF.up (n' := 47) (by decide)) (by decide))
  refine rG_pR C hS cl_X4 (k := 1) (by decide) tw_200 rfl hin rfl (ty := (.object "NumberWords$Line")) (by decide +kernel) rfl rfl rfl rfl (by decide) dX4_init_12 (fun H locs hS => ?_)
  have hF := Fr.setR (a := 44) (k := 1) (r := 45) hF (by decide)
  have hS : StG G (setR (setR Rf 45 0 46) 44 1 45) 47 M s H locs := hS
  refine lv_aload_n hx hb dX4_init_15 rfl (lv_at hl 0 rfl) ?_
  refine rG_new C hS cl_X3 rfl hF tw_186 tw_187 tw_10 df_X3 ⟨by decide, by decide⟩ dX4_init_16 (fun H hS => ?_)
  have hF := hF.up (n' := 48) (by omega)
  refine lv_dup hx hb dX4_init_19 rfl ?_
  refine rG_then hS (rG_runI C hS hl.1 ci_X4_11 (g_X3_init l G 47 (setR (setR Rf 45 0 46) 44 1 45) M rfl hF) ⟨by decide, by decide⟩ rfl rfl (Nat.le_of_ble_eq_true rfl) ⟨by decide, by decide⟩ dX4_init_20) (fun H locs hS => ?_)
  have hS : StG G (setR (setR (setR Rf 45 0 46) 44 1 45) 47 0 48) 49 M s H locs := hS
  have hF : Fr (setR (setR (setR Rf 45 0 46) 44 1 45) 47 0 48) 49 M := (Fr.setR (a := 47) (k := 0) (r := 48) (hF.up (n' := 49) (by decide)) (by decide))
  refine rG_pR C hS cl_X4 (k := 2) (by decide) tw_201 rfl hin rfl (ty := (.object "NumberWords$Line")) (by decide +kernel) rfl rfl rfl rfl (by decide) dX4_init_23 (fun H locs hS => ?_)
  have hF := Fr.setR (a := 44) (k := 2) (r := 47) hF (by decide)
  have hS : StG G (setR (setR (setR (setR Rf 45 0 46) 44 1 45) 47 0 48) 44 2 47) 49 M s H locs := hS
  refine lv_aload_n hx hb dX4_init_26 rfl (lv_at hl 0 rfl) ?_
  refine lv_sipush (v := 1000) hx hb dX4_init_27 (by decide) ?_
  refine rG_new_int C hS rfl hF tw_88 (by decide) (by decide) rfl (by decide) ⟨by decide, by decide⟩ dX4_init_30 (fun H hS => ?_)
  have hF := hF.up (n' := 50) (by omega)
  refine rG_pR C hS cl_X4 (k := 3) (by decide) tw_202 rfl hin rfl (ty := (.array .int)) (by decide +kernel) rfl rfl rfl rfl (by decide) dX4_init_32 (fun H locs hS => ?_)
  have hF := Fr.setR (a := 44) (k := 3) (r := 49) hF (by decide)
  have hS : StG G (setR (setR (setR (setR (setR Rf 45 0 46) 44 1 45) 47 0 48) 44 2 47) 44 3 49) 50 M s H locs := hS
  refine lv_aload_n hx hb dX4_init_35 rfl (lv_at hl 0 rfl) ?_
  refine lv_aload_n hx hb dX4_init_36 rfl (lv_at hl 1 rfl) ?_
  refine rG_pR C hS cl_X4 (k := 0) (by decide) tw_199 rfl hin rfl (ty := (.object "NumberWords$Clauses")) (by decide +kernel) rfl rfl rfl rfl (by decide) dX4_init_37 (fun H locs hS => ?_)
  have hF := Fr.setR (a := 44) (k := 0) (r := 3) hF (by decide)
  have hS : StG G (setR (setR (setR (setR (setR (setR Rf 45 0 46) 44 1 45) 47 0 48) 44 2 47) 44 3 49) 44 0 3) 50 M s H locs := hS
  exact rG_vret C hS hr hlk dX4_init_40
def xR0 : zRf := fun _ _ => none
def xM0 : zM := (fun _ _ => 0, fun _ _ => 0)
def xR1 : zRf := setR xR0 1 0 2
def xR2 : zRf := setR xR1 0 0 1
def xR3 : zRf := setR xR2 3 1 4
def xR4 : zRf := setR xR3 3 2 5
def xR5 : zRf := setR xR4 3 3 6
def xR6 : zRf := setR xR5 3 4 7
def xR7 : zRf := setR xR6 3 5 8
def xR8 : zRf := setR xR7 3 6 9
def xR9 : zRf := setR xR8 3 7 10
def xR10 : zRf := setR xR9 3 8 11
def xR11 : zRf := setR xR10 0 1 3
def xR12 : zRf := setR xR11 12 0 1
def xR13 : zRf := setR xR12 12 1 3
def xR14 : zRf := setR xR13 0 2 12
def xR15 : zRf := setR xR14 0 3 13
def xR16 : zRf := setR xR15 15 0 16
def xR17 : zRf := setR xR16 14 2 15
def xR18 : zRf := setR xR17 17 0 18
def xR19 : zRf := setR xR18 14 3 17
def xR20 : zRf := setR xR19 14 4 19
def xR21 : zRf := setR xR20 14 5 20
def xR22 : zRf := setR xR21 14 6 21
def xR23 : zRf := setR xR22 14 7 22
def xR24 : zRf := setR xR23 14 8 23
def xR25 : zRf := setR xR24 13 0 14
def xR26 : zRf := setR xR25 25 0 26
def xR27 : zRf := setR xR26 24 2 25
def xR28 : zRf := setR xR27 27 0 28
def xR29 : zRf := setR xR28 24 3 27
def xR30 : zRf := setR xR29 24 4 29
def xR31 : zRf := setR xR30 24 5 30
def xR32 : zRf := setR xR31 24 6 31
def xR33 : zRf := setR xR32 24 7 32
def xR34 : zRf := setR xR33 24 8 33
def xR35 : zRf := setR xR34 13 1 24
def xR36 : zRf := setR xR35 35 0 36
def xR37 : zRf := setR xR36 34 2 35
def xR38 : zRf := setR xR37 37 0 38
def xR39 : zRf := setR xR38 34 3 37
def xR40 : zRf := setR xR39 34 4 39
def xR41 : zRf := setR xR40 34 5 40
def xR42 : zRf := setR xR41 34 6 41
def xR43 : zRf := setR xR42 34 7 42
def xR44 : zRf := setR xR43 34 8 43
def xR45 : zRf := setR xR44 13 2 34
def xR46 : zRf := setR xR45 45 0 46
def xR47 : zRf := setR xR46 44 1 45
def xR48 : zRf := setR xR47 47 0 48
def xR49 : zRf := setR xR48 44 2 47
def xR50 : zRf := setR xR49 44 3 49
def xR51 : zRf := setR xR50 44 0 3
def xR52 : zRf := setR xR51 0 4 44
def xR53 : zRf := setR xR52 50 0 51
def xR54 : zRf := setR xR53 50 1 52
def xR55 : zRf := setR xR54 0 5 50
def xR56 : zRf := setR xR55 53 0 54
def xR57 : zRf := setR xR56 0 6 53
def xR58 : zRf := setR xR57 55 0 56
def xR59 : zRf := setR xR58 0 7 55
def xR60 : zRf := setR xR59 57 0 58
def xR61 : zRf := setR xR60 0 8 57
def xR62 : zRf := setR xR61 59 0 60
def xR63 : zRf := setR xR62 0 9 59
def xR64 : zRf := setR xR63 61 0 62
def xR65 : zRf := setR xR64 0 10 61
def xM1 : zM := zRest (zRest (zRest (zI xM0 12 3 (-1)) 14 0) 24 0) 34 0
set_option maxHeartbeats 8000000 in
set_option maxRecDepth 100000 in
theorem g_X10_init (l : Launch) (G : Gl) (F : Nat) (hFu : 1000 < F) : Met l yX10_init (wsM yX10_init cX10_init 2 none) (rmC 3 64 62 48824) (PreG G xR0 1 xM0 [.ref (G.1 + 0)]) (PoG G xR65 63 xM1) 62 48824 (gA G) := by
  refine rG_met (own := RX10) rfl (by decide) (Nat.le_of_ble_eq_true rfl) ?_
  intro p e s m below meth c ls C hr hlk hin hS hl
  have hl : lv_has ls 2 [(0, .ref (G.1 + 0))] := hl
  obtain ⟨hx, hb, hml, hown, hts, hK, hX⟩ := id C
  have hao := hX.2.2.2.2.2.2.2
  have hF : Fr xR0 1 xM0 := fun _ _ => ⟨fun _ => rfl, fun _ => rfl, fun _ => rfl⟩
  refine lv_aload_n hx hb dX10_init_0 rfl (lv_at hl 0 rfl) ?_
  refine W.objInit hx hb hown (hts _ tw_26) (hts _ wobi) (hts _ wob) rfl (by rw [hml]; exact hl.1) rfl dX10_init_1 (by decide) (Nat.le_of_ble_eq_true rfl) ?_
  refine W.eq (g2 := F0 m 4 ls []) rfl ?_
  refine lv_aload_n hx hb dX10_init_4 rfl (lv_at hl 0 rfl) ?_
  refine rG_new C hS cl_X8 rfl hF tw_29 tw_30 tw_2 df_X8 ⟨by decide, by decide⟩ dX10_init_5 (fun H hS => ?_)
  have hF := hF.up (n' := 2) (by omega)
  refine lv_dup hx hb dX10_init_8 rfl ?_
  refine rG_then hS (rG_runI C hS hl.1 ci_X10_9 (g_X8_init l G xR0 xM0 hF) ⟨by decide, by decide⟩ rfl rfl (Nat.le_of_ble_eq_true rfl) ⟨by decide, by decide⟩ dX10_init_9) (fun H locs hS => ?_)
  have hS : StG G xR1 3 xM0 s H locs := hS
  have hF : Fr xR1 3 xM0 := (Fr.setR (a := 1) (k := 0) (r := 2) (hF.up (n' := 3) (by decide)) (by decide))
  refine rG_pR C hS cl_X10 (k := 0) (by decide) tw_255 rfl hin rfl (ty := (.object "NumberWords$Text")) (by decide +kernel) rfl rfl rfl rfl (by decide) dX10_init_12 (fun H locs hS => ?_)
  have hF := Fr.setR (a := 0) (k := 0) (r := 1) hF (by decide)
  have hS : StG G xR2 3 xM0 s H locs := hS
  have hF : Fr xR2 3 xM0 := hF
  refine lv_aload_n hx hb dX10_init_15 rfl (lv_at hl 0 rfl) ?_
  refine rG_new C hS cl_X0 rfl hF tw_46 tw_47 tw_3 df_X0 ⟨by decide, by decide⟩ dX10_init_16 (fun H hS => ?_)
  have hF := hF.up (n' := 4) (by omega)
  refine lv_dup hx hb dX10_init_19 rfl ?_
  refine rG_then hS (rG_runI C hS hl.1 ci_X10_18 (g_X0_init l G xR2 xM0 hF) ⟨by decide, by decide⟩ rfl rfl (Nat.le_of_ble_eq_true rfl) ⟨by decide, by decide⟩ dX10_init_20) (fun H locs hS => ?_)
  have hS : StG G xR10 12 xM0 s H locs := hS
  have hF : Fr xR10 12 xM0 := (Fr.setR (a := 3) (k := 8) (r := 11) (Fr.setR (a := 3) (k := 7) (r := 10) (Fr.setR (a := 3) (k := 6) (r := 9) (Fr.setR (a := 3) (k := 5) (r := 8) (Fr.setR (a := 3) (k := 4) (r := 7) (Fr.setR (a := 3) (k := 3) (r := 6) (Fr.setR (a := 3) (k := 2) (r := 5) (Fr.setR (a := 3) (k := 1) (r := 4) (hF.up (n' := 12) (by decide)) (by decide)) (by decide)) (by decide)) (by decide)) (by decide)) (by decide)) (by decide)) (by decide))
  refine rG_pR C hS cl_X10 (k := 1) (by decide) tw_256 rfl hin rfl (ty := (.object "NumberWords$Clauses")) (by decide +kernel) rfl rfl rfl rfl (by decide) dX10_init_23 (fun H locs hS => ?_)
  have hF := Fr.setR (a := 0) (k := 1) (r := 3) hF (by decide)
  have hS : StG G xR11 12 xM0 s H locs := hS
  have hF : Fr xR11 12 xM0 := hF
  refine lv_aload_n hx hb dX10_init_26 rfl (lv_at hl 0 rfl) ?_
  refine rG_new C hS cl_X2 rfl hF tw_91 tw_92 tw_4 df_X2 ⟨by decide, by decide⟩ dX10_init_27 (fun H hS => ?_)
  have hF := hF.up (n' := 13) (by omega)
  refine lv_dup hx hb dX10_init_30 rfl ?_
  refine lv_aload_n hx hb dX10_init_31 rfl (lv_at hl 0 rfl) ?_
  refine rG_gR C hS fl_X10_10 rfl rfl (by decide) (r := 1) (by decide) dX10_init_32 ?_
  refine lv_aload_n hx hb dX10_init_35 rfl (lv_at hl 0 rfl) ?_
  refine rG_gR C hS fl_X10_19 rfl rfl (by decide) (r := 3) (by decide) dX10_init_36 ?_
  refine rG_then hS (rG_runI C hS hl.1 ci_X10_25 (g_X2_init l G xR11 xM0 hF) ⟨by decide, by decide⟩ rfl rfl (Nat.le_of_ble_eq_true rfl) ⟨by decide, by decide⟩ dX10_init_39) (fun H locs hS => ?_)
  have hS : StG G xR13 13 (zI xM0 12 3 (-1)) s H locs := hS
  have hF : Fr xR13 13 (zI xM0 12 3 (-1)) := (Fr.zI (Fr.setR (a := 12) (k := 1) (r := 3) (Fr.setR (a := 12) (k := 0) (r := 1) (hF) (by decide)) (by decide)) (by decide))
  refine rG_pR C hS cl_X10 (k := 2) (by decide) tw_257 rfl hin rfl (ty := (.object "NumberWords$Grammar")) (by decide +kernel) rfl rfl rfl rfl (by decide) dX10_init_42 (fun H locs hS => ?_)
  have hF := Fr.setR (a := 0) (k := 2) (r := 12) hF (by decide)
  have hS : StG G xR14 13 (zI xM0 12 3 (-1)) s H locs := hS
  have hF : Fr xR14 13 (zI xM0 12 3 (-1)) := hF
  refine lv_aload_n hx hb dX10_init_45 rfl (lv_at hl 0 rfl) ?_
  refine lv_iconst (v := 3) hx hb dX10_init_46 (by decide) ?_
  refine rG_newq C hS rfl hF tw_110 hao (by decide) (by decide) rfl (by decide) ⟨by decide, by decide⟩ dX10_init_47 (fun H hS => ?_)
  have hF := hF.up (n' := 14) (by omega)
  refine rG_pR C hS cl_X10 (k := 3) (by decide) tw_258 rfl hin rfl (ty := (.array (.object "NumberWords$Tongue"))) (by decide +kernel) rfl rfl rfl rfl (by decide) dX10_init_50 (fun H locs hS => ?_)
  have hF := Fr.setR (a := 0) (k := 3) (r := 13) hF (by decide)
  have hS : StG G xR15 14 (zI xM0 12 3 (-1)) s H locs := hS
  have hF : Fr xR15 14 (zI xM0 12 3 (-1)) := hF
  refine lv_iconst (v := 0) hx hb dX10_init_53 (by decide) ?_
  refine lv_istore_n (lv' := [(1, .int 0), (0, .ref (G.1 + 0))]) hx hb dX10_init_54 rfl hl (by decide) rfl (fun ls hl => ?_)
  refine lv_iload_n hx hb dX10_init_55 rfl (lv_at hl 0 rfl) ?_
  refine lv_iconst (v := 3) hx hb dX10_init_56 (by decide) ?_
  refine lv_icmp_ge (tgt := 79) hx hb dX10_init_57 (by decide) (fun c1 => absurd c1 (by decide)) (fun c1 => ?_)
  refine lv_aload_n hx hb dX10_init_60 rfl (lv_at hl 1 rfl) ?_
  refine rG_gR C hS fl_X10_34 rfl rfl (by decide) (r := 13) (by decide) dX10_init_61 ?_
  refine lv_iload_n hx hb dX10_init_64 rfl (lv_at hl 0 rfl) ?_
  refine rG_new C hS cl_X9 rfl hF tw_110 tw_112 tw_5 df_X9 ⟨by decide, by decide⟩ dX10_init_65 (fun H hS => ?_)
  have hF := hF.up (n' := 15) (by omega)
  refine lv_dup hx hb dX10_init_68 rfl ?_
  refine rG_then hS (rG_runI C hS hl.1 ci_X10_38 (g_X9_init l G F hFu 14 xR15 (zI xM0 12 3 (-1)) rfl hF) ⟨by decide, by decide⟩ rfl rfl (Nat.le_of_ble_eq_true rfl) ⟨by decide, by decide⟩ dX10_init_69) (fun H locs hS => ?_)
  have hS : StG G xR24 24 (zRest (zI xM0 12 3 (-1)) 14 0) s H locs := hS
  have hF : Fr xR24 24 (zRest (zI xM0 12 3 (-1)) 14 0) := (Fr_rest (a := 14) (x := 0) (Fr.setR (a := 14) (k := 8) (r := 23) (Fr.setR (a := 14) (k := 7) (r := 22) (Fr.setR (a := 14) (k := 6) (r := 21) (Fr.setR (a := 14) (k := 5) (r := 20) (Fr.setR (a := 14) (k := 4) (r := 19) (Fr.setR (a := 14) (k := 3) (r := 17) (Fr.setR (a := 17) (k := 0) (r := 18) (Fr.setR (a := 14) (k := 2) (r := 15) (Fr.setR (a := 15) (k := 0) (r := 16) (hF.up (n' := 24) (by decide)) (by decide)) (by decide)) (by decide)) (by decide)) (by decide)) (by decide)) (by decide)) (by decide)) (by decide)) (by decide))
  refine rG_aast C hS (i := 0) (by decide) (by decide) rfl (by decide) dX10_init_72 (fun H locs hS => ?_)
  have hF := Fr.setR (a := 13) (k := 0) (r := 14) hF (by decide)
  have hS : StG G xR25 24 (zRest (zI xM0 12 3 (-1)) 14 0) s H locs := hS
  have hF : Fr xR25 24 (zRest (zI xM0 12 3 (-1)) 14 0) := hF
  refine lv_iinc (v := 1) (lv' := [(1, .int 1), (0, .ref (G.1 + 0))]) hx hb dX10_init_73 hl (k := 0) rfl (by decide) (by decide) rfl (fun ls hl => ?_)
  refine lv_goto (tgt := 55) hx hb dX10_init_76 (by decide) ?_
  refine lv_iload_n hx hb dX10_init_55 rfl (lv_at hl 0 rfl) ?_
  refine lv_iconst (v := 3) hx hb dX10_init_56 (by decide) ?_
  refine lv_icmp_ge (tgt := 79) hx hb dX10_init_57 (by decide) (fun c1 => absurd c1 (by decide)) (fun c1 => ?_)
  refine lv_aload_n hx hb dX10_init_60 rfl (lv_at hl 1 rfl) ?_
  refine rG_gR C hS fl_X10_34 rfl rfl (by decide) (r := 13) (by decide) dX10_init_61 ?_
  refine lv_iload_n hx hb dX10_init_64 rfl (lv_at hl 0 rfl) ?_
  refine rG_new C hS cl_X9 rfl hF tw_110 tw_112 tw_5 df_X9 ⟨by decide, by decide⟩ dX10_init_65 (fun H hS => ?_)
  have hF := hF.up (n' := 25) (by omega)
  refine lv_dup hx hb dX10_init_68 rfl ?_
  refine rG_then hS (rG_runI C hS hl.1 ci_X10_38 (g_X9_init l G F hFu 24 xR25 (zRest (zI xM0 12 3 (-1)) 14 0) rfl hF) ⟨by decide, by decide⟩ rfl rfl (Nat.le_of_ble_eq_true rfl) ⟨by decide, by decide⟩ dX10_init_69) (fun H locs hS => ?_)
  have hS : StG G xR34 34 (zRest (zRest (zI xM0 12 3 (-1)) 14 0) 24 0) s H locs := hS
  have hF : Fr xR34 34 (zRest (zRest (zI xM0 12 3 (-1)) 14 0) 24 0) := (Fr_rest (a := 24) (x := 0) (Fr.setR (a := 24) (k := 8) (r := 33) (Fr.setR (a := 24) (k := 7) (r := 32) (Fr.setR (a := 24) (k := 6) (r := 31) (Fr.setR (a := 24) (k := 5) (r := 30) (Fr.setR (a := 24) (k := 4) (r := 29) (Fr.setR (a := 24) (k := 3) (r := 27) (Fr.setR (a := 27) (k := 0) (r := 28) (Fr.setR (a := 24) (k := 2) (r := 25) (Fr.setR (a := 25) (k := 0) (r := 26) (hF.up (n' := 34) (by decide)) (by decide)) (by decide)) (by decide)) (by decide)) (by decide)) (by decide)) (by decide)) (by decide)) (by decide)) (by decide))
  refine rG_aast C hS (i := 1) (by decide) (by decide) rfl (by decide) dX10_init_72 (fun H locs hS => ?_)
  have hF := Fr.setR (a := 13) (k := 1) (r := 24) hF (by decide)
  have hS : StG G xR35 34 (zRest (zRest (zI xM0 12 3 (-1)) 14 0) 24 0) s H locs := hS
  have hF : Fr xR35 34 (zRest (zRest (zI xM0 12 3 (-1)) 14 0) 24 0) := hF
  refine lv_iinc (v := 2) (lv' := [(1, .int 2), (0, .ref (G.1 + 0))]) hx hb dX10_init_73 hl (k := 0) rfl (by decide) (by decide) rfl (fun ls hl => ?_)
  refine lv_goto (tgt := 55) hx hb dX10_init_76 (by decide) ?_
  refine lv_iload_n hx hb dX10_init_55 rfl (lv_at hl 0 rfl) ?_
  refine lv_iconst (v := 3) hx hb dX10_init_56 (by decide) ?_
  refine lv_icmp_ge (tgt := 79) hx hb dX10_init_57 (by decide) (fun c1 => absurd c1 (by decide)) (fun c1 => ?_)
  refine lv_aload_n hx hb dX10_init_60 rfl (lv_at hl 1 rfl) ?_
  refine rG_gR C hS fl_X10_34 rfl rfl (by decide) (r := 13) (by decide) dX10_init_61 ?_
  refine lv_iload_n hx hb dX10_init_64 rfl (lv_at hl 0 rfl) ?_
  refine rG_new C hS cl_X9 rfl hF tw_110 tw_112 tw_5 df_X9 ⟨by decide, by decide⟩ dX10_init_65 (fun H hS => ?_)
  have hF := hF.up (n' := 35) (by omega)
  refine lv_dup hx hb dX10_init_68 rfl ?_
  refine rG_then hS (rG_runI C hS hl.1 ci_X10_38 (g_X9_init l G F hFu 34 xR35 (zRest (zRest (zI xM0 12 3 (-1)) 14 0) 24 0) rfl hF) ⟨by decide, by decide⟩ rfl rfl (Nat.le_of_ble_eq_true rfl) ⟨by decide, by decide⟩ dX10_init_69) (fun H locs hS => ?_)
  have hS : StG G xR44 44 (zRest (zRest (zRest (zI xM0 12 3 (-1)) 14 0) 24 0) 34 0) s H locs := hS
  have hF : Fr xR44 44 (zRest (zRest (zRest (zI xM0 12 3 (-1)) 14 0) 24 0) 34 0) := (Fr_rest (a := 34) (x := 0) (Fr.setR (a := 34) (k := 8) (r := 43) (Fr.setR (a := 34) (k := 7) (r := 42) (Fr.setR (a := 34) (k := 6) (r := 41) (Fr.setR (a := 34) (k := 5) (r := 40) (Fr.setR (a := 34) (k := 4) (r := 39) (Fr.setR (a := 34) (k := 3) (r := 37) (Fr.setR (a := 37) (k := 0) (r := 38) (Fr.setR (a := 34) (k := 2) (r := 35) (Fr.setR (a := 35) (k := 0) (r := 36) (hF.up (n' := 44) (by decide)) (by decide)) (by decide)) (by decide)) (by decide)) (by decide)) (by decide)) (by decide)) (by decide)) (by decide)) (by decide))
  refine rG_aast C hS (i := 2) (by decide) (by decide) rfl (by decide) dX10_init_72 (fun H locs hS => ?_)
  have hF := Fr.setR (a := 13) (k := 2) (r := 34) hF (by decide)
  have hS : StG G xR45 44 (zRest (zRest (zRest (zI xM0 12 3 (-1)) 14 0) 24 0) 34 0) s H locs := hS
  have hF : Fr xR45 44 (zRest (zRest (zRest (zI xM0 12 3 (-1)) 14 0) 24 0) 34 0) := hF
  refine lv_iinc (v := 3) (lv' := [(1, .int 3), (0, .ref (G.1 + 0))]) hx hb dX10_init_73 hl (k := 0) rfl (by decide) (by decide) rfl (fun ls hl => ?_)
  refine lv_goto (tgt := 55) hx hb dX10_init_76 (by decide) ?_
  refine lv_iload_n hx hb dX10_init_55 rfl (lv_at hl 0 rfl) ?_
  refine lv_iconst (v := 3) hx hb dX10_init_56 (by decide) ?_
  refine lv_icmp_ge (tgt := 79) hx hb dX10_init_57 (by decide) (fun c1 => ?_) (fun c1 => absurd (by decide) c1)
  refine lv_aload_n hx hb dX10_init_79 rfl (lv_at hl 1 rfl) ?_
  refine rG_new C hS cl_X4 rfl hF tw_180 tw_181 tw_9 df_X4 ⟨by decide, by decide⟩ dX10_init_80 (fun H hS => ?_)
  have hF := hF.up (n' := 45) (by omega)
  refine lv_dup hx hb dX10_init_83 rfl ?_
  refine lv_aload_n hx hb dX10_init_84 rfl (lv_at hl 1 rfl) ?_
  refine rG_gR C hS fl_X10_19 rfl rfl (by decide) (r := 3) (by decide) dX10_init_85 ?_
  refine rG_then hS (rG_runI C hS hl.1 ci_X10_41 (g_X4_init l G xR45 (zRest (zRest (zRest (zI xM0 12 3 (-1)) 14 0) 24 0) 34 0) hF) ⟨by decide, by decide⟩ rfl rfl (Nat.le_of_ble_eq_true rfl) ⟨by decide, by decide⟩ dX10_init_88) (fun H locs hS => ?_)
  have hS : StG G xR51 50 (zRest (zRest (zRest (zI xM0 12 3 (-1)) 14 0) 24 0) 34 0) s H locs := hS
  have hF : Fr xR51 50 (zRest (zRest (zRest (zI xM0 12 3 (-1)) 14 0) 24 0) 34 0) := (Fr.setR (a := 44) (k := 0) (r := 3) (Fr.setR (a := 44) (k := 3) (r := 49) (Fr.setR (a := 44) (k := 2) (r := 47) (Fr.setR (a := 47) (k := 0) (r := 48) (Fr.setR (a := 44) (k := 1) (r := 45) (Fr.setR (a := 45) (k := 0) (r := 46) (hF.up (n' := 50) (by decide)) (by decide)) (by decide)) (by decide)) (by decide)) (by decide)) (by decide))
  refine rG_pR C hS cl_X10 (k := 4) (by decide) tw_259 rfl hin rfl (ty := (.object "NumberWords$Namer")) (by decide +kernel) rfl rfl rfl rfl (by decide) dX10_init_91 (fun H locs hS => ?_)
  have hF := Fr.setR (a := 0) (k := 4) (r := 44) hF (by decide)
  have hS : StG G xR52 50 (zRest (zRest (zRest (zI xM0 12 3 (-1)) 14 0) 24 0) 34 0) s H locs := hS
  have hF : Fr xR52 50 (zRest (zRest (zRest (zI xM0 12 3 (-1)) 14 0) 24 0) 34 0) := hF
  refine lv_aload_n hx hb dX10_init_94 rfl (lv_at hl 1 rfl) ?_
  refine rG_new C hS cl_X5 rfl hF tw_215 tw_216 tw_11 df_X5 ⟨by decide, by decide⟩ dX10_init_95 (fun H hS => ?_)
  have hF := hF.up (n' := 51) (by omega)
  refine lv_dup hx hb dX10_init_98 rfl ?_
  refine rG_then hS (rG_runI C hS hl.1 ci_X10_50 (g_X5_init l G xR52 (zRest (zRest (zRest (zI xM0 12 3 (-1)) 14 0) 24 0) 34 0) hF) ⟨by decide, by decide⟩ rfl rfl (Nat.le_of_ble_eq_true rfl) ⟨by decide, by decide⟩ dX10_init_99) (fun H locs hS => ?_)
  have hS : StG G xR54 53 (zRest (zRest (zRest (zI xM0 12 3 (-1)) 14 0) 24 0) 34 0) s H locs := hS
  have hF : Fr xR54 53 (zRest (zRest (zRest (zI xM0 12 3 (-1)) 14 0) 24 0) 34 0) := (Fr.setR (a := 50) (k := 1) (r := 52) (Fr.setR (a := 50) (k := 0) (r := 51) (hF.up (n' := 53) (by decide)) (by decide)) (by decide))
  refine rG_pR C hS cl_X10 (k := 5) (by decide) tw_260 rfl hin rfl (ty := (.object "NumberWords$Sorter")) (by decide +kernel) rfl rfl rfl rfl (by decide) dX10_init_102 (fun H locs hS => ?_)
  have hF := Fr.setR (a := 0) (k := 5) (r := 50) hF (by decide)
  have hS : StG G xR55 53 (zRest (zRest (zRest (zI xM0 12 3 (-1)) 14 0) 24 0) 34 0) s H locs := hS
  have hF : Fr xR55 53 (zRest (zRest (zRest (zI xM0 12 3 (-1)) 14 0) 24 0) 34 0) := hF
  refine lv_aload_n hx hb dX10_init_105 rfl (lv_at hl 1 rfl) ?_
  refine rG_new C hS cl_X3 rfl hF tw_228 tw_187 tw_10 df_X3 ⟨by decide, by decide⟩ dX10_init_106 (fun H hS => ?_)
  have hF := hF.up (n' := 54) (by omega)
  refine lv_dup hx hb dX10_init_109 rfl ?_
  refine rG_then hS (rG_runI C hS hl.1 ci_X10_57 (g_X3_init l G 53 xR55 (zRest (zRest (zRest (zI xM0 12 3 (-1)) 14 0) 24 0) 34 0) rfl hF) ⟨by decide, by decide⟩ rfl rfl (Nat.le_of_ble_eq_true rfl) ⟨by decide, by decide⟩ dX10_init_110) (fun H locs hS => ?_)
  have hS : StG G xR56 55 (zRest (zRest (zRest (zI xM0 12 3 (-1)) 14 0) 24 0) 34 0) s H locs := hS
  have hF : Fr xR56 55 (zRest (zRest (zRest (zI xM0 12 3 (-1)) 14 0) 24 0) 34 0) := (Fr.setR (a := 53) (k := 0) (r := 54) (hF.up (n' := 55) (by decide)) (by decide))
  refine rG_pR C hS cl_X10 (k := 6) (by decide) tw_261 rfl hin rfl (ty := (.object "NumberWords$Line")) (by decide +kernel) rfl rfl rfl rfl (by decide) dX10_init_113 (fun H locs hS => ?_)
  have hF := Fr.setR (a := 0) (k := 6) (r := 53) hF (by decide)
  have hS : StG G xR57 55 (zRest (zRest (zRest (zI xM0 12 3 (-1)) 14 0) 24 0) 34 0) s H locs := hS
  have hF : Fr xR57 55 (zRest (zRest (zRest (zI xM0 12 3 (-1)) 14 0) 24 0) 34 0) := hF
  refine lv_aload_n hx hb dX10_init_116 rfl (lv_at hl 1 rfl) ?_
  refine rG_new C hS cl_X3 rfl hF tw_228 tw_187 tw_10 df_X3 ⟨by decide, by decide⟩ dX10_init_117 (fun H hS => ?_)
  have hF := hF.up (n' := 56) (by omega)
  refine lv_dup hx hb dX10_init_120 rfl ?_
  refine rG_then hS (rG_runI C hS hl.1 ci_X10_57 (g_X3_init l G 55 xR57 (zRest (zRest (zRest (zI xM0 12 3 (-1)) 14 0) 24 0) 34 0) rfl hF) ⟨by decide, by decide⟩ rfl rfl (Nat.le_of_ble_eq_true rfl) ⟨by decide, by decide⟩ dX10_init_121) (fun H locs hS => ?_)
  have hS : StG G xR58 57 (zRest (zRest (zRest (zI xM0 12 3 (-1)) 14 0) 24 0) 34 0) s H locs := hS
  have hF : Fr xR58 57 (zRest (zRest (zRest (zI xM0 12 3 (-1)) 14 0) 24 0) 34 0) := (Fr.setR (a := 55) (k := 0) (r := 56) (hF.up (n' := 57) (by decide)) (by decide))
  refine rG_pR C hS cl_X10 (k := 7) (by decide) tw_262 rfl hin rfl (ty := (.object "NumberWords$Line")) (by decide +kernel) rfl rfl rfl rfl (by decide) dX10_init_124 (fun H locs hS => ?_)
  have hF := Fr.setR (a := 0) (k := 7) (r := 55) hF (by decide)
  have hS : StG G xR59 57 (zRest (zRest (zRest (zI xM0 12 3 (-1)) 14 0) 24 0) 34 0) s H locs := hS
  have hF : Fr xR59 57 (zRest (zRest (zRest (zI xM0 12 3 (-1)) 14 0) 24 0) 34 0) := hF
  refine lv_aload_n hx hb dX10_init_127 rfl (lv_at hl 1 rfl) ?_
  refine rG_new C hS cl_X6 rfl hF tw_230 tw_118 tw_6 df_X6 ⟨by decide, by decide⟩ dX10_init_128 (fun H hS => ?_)
  have hF := hF.up (n' := 58) (by omega)
  refine lv_dup hx hb dX10_init_131 rfl ?_
  refine lv_iconst (v := 1) hx hb dX10_init_132 (by decide) ?_
  refine rG_then hS (rG_runI C hS hl.1 ci_X10_67 (g_X6_init l G 57 1 xR59 (zRest (zRest (zRest (zI xM0 12 3 (-1)) 14 0) 24 0) 34 0) 5 rfl hF (by decide) (by decide) rfl (by decide)) ⟨by decide, by decide⟩ rfl rfl (Nat.le_of_ble_eq_true rfl) ⟨by decide, by decide⟩ dX10_init_133) (fun H locs hS => ?_)
  have hS : StG G xR60 59 (zRest (zRest (zRest (zI xM0 12 3 (-1)) 14 0) 24 0) 34 0) s H locs := hS
  have hF : Fr xR60 59 (zRest (zRest (zRest (zI xM0 12 3 (-1)) 14 0) 24 0) 34 0) := (Fr.setR (a := 57) (k := 0) (r := 58) (hF.up (n' := 59) (by decide)) (by decide))
  refine rG_pR C hS cl_X10 (k := 8) (by decide) tw_263 rfl hin rfl (ty := (.object "NumberWords$Spellings")) (by decide +kernel) rfl rfl rfl rfl (by decide) dX10_init_136 (fun H locs hS => ?_)
  have hF := Fr.setR (a := 0) (k := 8) (r := 57) hF (by decide)
  have hS : StG G xR61 59 (zRest (zRest (zRest (zI xM0 12 3 (-1)) 14 0) 24 0) 34 0) s H locs := hS
  have hF : Fr xR61 59 (zRest (zRest (zRest (zI xM0 12 3 (-1)) 14 0) 24 0) 34 0) := hF
  refine lv_aload_n hx hb dX10_init_139 rfl (lv_at hl 1 rfl) ?_
  refine rG_new C hS cl_X1 rfl hF tw_232 tw_233 tw_12 df_X1 ⟨by decide, by decide⟩ dX10_init_140 (fun H hS => ?_)
  have hF := hF.up (n' := 60) (by omega)
  refine lv_dup hx hb dX10_init_143 rfl ?_
  refine rG_then hS (rG_runI C hS hl.1 ci_X10_76 (g_X1_init l G xR61 (zRest (zRest (zRest (zI xM0 12 3 (-1)) 14 0) 24 0) 34 0) hF) ⟨by decide, by decide⟩ rfl rfl (Nat.le_of_ble_eq_true rfl) ⟨by decide, by decide⟩ dX10_init_144) (fun H locs hS => ?_)
  have hS : StG G xR62 61 (zRest (zRest (zRest (zI xM0 12 3 (-1)) 14 0) 24 0) 34 0) s H locs := hS
  have hF : Fr xR62 61 (zRest (zRest (zRest (zI xM0 12 3 (-1)) 14 0) 24 0) 34 0) := (Fr.setR (a := 59) (k := 0) (r := 60) (hF.up (n' := 61) (by decide)) (by decide))
  refine rG_pR C hS cl_X10 (k := 9) (by decide) tw_264 rfl hin rfl (ty := (.object "NumberWords$Distance")) (by decide +kernel) rfl rfl rfl rfl (by decide) dX10_init_147 (fun H locs hS => ?_)
  have hF := Fr.setR (a := 0) (k := 9) (r := 59) hF (by decide)
  have hS : StG G xR63 61 (zRest (zRest (zRest (zI xM0 12 3 (-1)) 14 0) 24 0) 34 0) s H locs := hS
  have hF : Fr xR63 61 (zRest (zRest (zRest (zI xM0 12 3 (-1)) 14 0) 24 0) 34 0) := hF
  refine lv_aload_n hx hb dX10_init_150 rfl (lv_at hl 1 rfl) ?_
  refine rG_new C hS cl_X7 rfl hF tw_245 tw_246 tw_13 df_X7 ⟨by decide, by decide⟩ dX10_init_151 (fun H hS => ?_)
  have hF := hF.up (n' := 62) (by omega)
  refine lv_dup hx hb dX10_init_154 rfl ?_
  refine rG_then hS (rG_runI C hS hl.1 ci_X10_83 (g_X7_init l G xR63 (zRest (zRest (zRest (zI xM0 12 3 (-1)) 14 0) 24 0) 34 0) hF) ⟨by decide, by decide⟩ rfl rfl (Nat.le_of_ble_eq_true rfl) ⟨by decide, by decide⟩ dX10_init_155) (fun H locs hS => ?_)
  have hS : StG G xR64 63 (zRest (zRest (zRest (zI xM0 12 3 (-1)) 14 0) 24 0) 34 0) s H locs := hS
  have hF : Fr xR64 63 (zRest (zRest (zRest (zI xM0 12 3 (-1)) 14 0) 24 0) 34 0) := (Fr.setR (a := 61) (k := 0) (r := 62) (hF.up (n' := 63) (by decide)) (by decide))
  refine rG_pR C hS cl_X10 (k := 10) (by decide) tw_265 rfl hin rfl (ty := (.object "NumberWords$Square")) (by decide +kernel) rfl rfl rfl rfl (by decide) dX10_init_158 (fun H locs hS => ?_)
  have hF := Fr.setR (a := 0) (k := 10) (r := 61) hF (by decide)
  have hS : StG G xR65 63 (zRest (zRest (zRest (zI xM0 12 3 (-1)) 14 0) 24 0) 34 0) s H locs := hS
  have hF : Fr xR65 63 (zRest (zRest (zRest (zI xM0 12 3 (-1)) 14 0) 24 0) 34 0) := hF
  exact rG_vret C hS hr hlk dX10_init_161
def xR100 : zRf := xR65
def xR101 : zRf := setR xR100 63 0 64
def xR102 : zRf := setR xR101 63 1 65
def xR103 : zRf := setR xR102 63 2 66
def xR104 : zRf := setR xR103 63 3 67
def xR105 : zRf := setR xR104 63 4 68
def xR106 : zRf := setR xR105 63 5 69
def xR107 : zRf := setR xR106 63 6 70
def xR108 : zRf := setR xR107 63 7 71
def xR109 : zRf := setR xR108 63 8 72
def xR110 : zRf := setR xR109 63 9 73
def xR111 : zRf := setR xR110 63 10 74
def xR112 : zRf := setR xR111 63 11 75
def xR113 : zRf := setR xR112 63 12 76
def xR114 : zRf := setR xR113 63 13 77
def xR115 : zRf := setR xR114 63 14 78
def xR116 : zRf := setR xR115 63 15 79
def xR117 : zRf := setR xR116 63 20 80
def xR118 : zRf := setR xR117 63 21 81
def xR119 : zRf := setR xR118 63 22 82
def xR120 : zRf := setR xR119 63 23 83
def xR121 : zRf := setR xR120 63 24 84
def xR122 : zRf := setR xR121 63 25 85
def xR123 : zRf := setR xR122 63 26 86
def xR124 : zRf := setR xR123 63 27 87
def xR125 : zRf := setR xR124 63 28 88
def xR126 : zRf := setR xR125 63 32 89
def xR127 : zRf := setR xR126 63 34 90
def xR128 : zRf := setR xR127 63 38 91
def xR129 : zRf := setR xR128 63 39 92
def xR130 : zRf := setR xR129 63 40 93
def xR131 : zRf := setR xR130 63 41 94
def xR132 : zRf := setR xR131 63 43 95
def xR133 : zRf := setR xR132 63 44 96
def xR134 : zRf := setR xR133 63 45 97
def xR135 : zRf := setR xR134 63 46 98
def xM2 : zM := zI xM1 63 17 (-1)
def Mod_init_B306 : (Int32 × zM) → Option (Nat × (Int32 × zM)) := fun (x1, M) =>
  if 3000 ≤ x1 then
    some (1, 0, M)
  else
    if inb x1 3000 = true then
      lt (zI M 74 x1.toNatClampNeg (-1)) fun M_1 =>
      lt (zI M_1 76 x1.toNatClampNeg (-1)) fun M_2 =>
      lt (zI M_2 77 x1.toNatClampNeg (-1)) fun M_3 =>
      lt (x1 + 1) fun x1_4 =>
      some (0, x1_4, M_3)
    else none
def gE_mod (G : Gl) (n : Nat) (p : Program) (l : Launch) (e : Env) (s : State) (m : MethodId) (args : Array Value) (below : List Frame) (meth : Method) (c : Code) (Q : State → Prop) (cells slots : Nat) (R : Room) (Rf : zRf) : Nat → (Int32 × zM) → Prop := fun k (x1, M) => match k with
  | 0 => ∀ (H : Heap) (locs : List Loc) (ls : Array Slot), StG G Rf n M s H locs → lv_has ls 2 [(0, .ref (G.1 + 63)), (1, .int x1)] → W p l e R s m args below meth c H locs cells slots Q (F0 m 306 ls [])
  | 1 => ∀ (H : Heap) (locs : List Loc) (ls : Array Slot), StG G Rf n M s H locs → lv_has ls 2 [] → W p l e R s m args below meth c H locs cells slots Q (F0 m 340 ls [])
  | _ => True
set_option maxHeartbeats 4000000 in
set_option maxRecDepth 100000 in
theorem gw_mod {G : Gl} {n : Nat} {p : Program} {l : Launch} {e : Env} {s : State} {m : MethodId} {args : Array Value} {below : List Frame} {meth : Method} {c : Code} {Q : State → Prop} {cells slots : Nat} {R : Room} {Rf : zRf} (C : Cx G cX11_init 2 RX11 p s m args c) (hn : 99 ≤ n) (h1 : Rf 63 10 = some 74) (h2 : Rf 63 12 = some 76) (h3 : Rf 63 13 = some 77) : ∀ (σ : (Int32 × zM)) (q : Nat × (Int32 × zM)), Mod_init_B306 σ = some q → (gE_mod G n p l e s m args below meth c Q cells slots R Rf) q.1 q.2 → (gE_mod G n p l e s m args below meth c Q cells slots R Rf) 0 σ := by
  intro (x1, M) q h hE H locs ls hS hl
  obtain ⟨hx, hb, -⟩ := id C
  unfold Mod_init_B306 at h
  try dsimp only at h
  refine lv_iload_n hx hb dX11_init_306 rfl (lv_at hl 1 rfl) ?_
  refine lv_sipush (v := 3000) hx hb dX11_init_307 (by decide) ?_
  refine lv_icmp_ge (tgt := 340) hx hb dX11_init_310 (by decide) (fun c_3 => ?_) (fun c_3 => ?_)
  · replace h := ifp c_3 h
    obtain rfl := Option.some.inj h
    exact hE _ _ _ hS (lv_sub hl [] rfl)
  · replace h := ifn c_3 h
    obtain ⟨b_4, h⟩ := ift h
    refine lv_aload_n hx hb dX11_init_313 rfl (lv_at hl 0 rfl) ?_
    refine rG_gR C hS fl_X11_41 rfl rfl (by omega) h1 dX11_init_314 ?_
    refine lv_iload_n hx hb dX11_init_317 rfl (lv_at hl 1 rfl) ?_
    refine lv_iconst (v := (-1)) hx hb dX11_init_318 (by decide) ?_
    obtain ⟨M_1, e_1, h⟩ := olt h
    refine rG_iast C hS rfl (by omega) rfl b_4 e_1 dX11_init_319 (fun H locs hS => ?_)
    refine lv_aload_n hx hb dX11_init_320 rfl (lv_at hl 0 rfl) ?_
    refine rG_gR C hS fl_X11_48 rfl rfl (by omega) h2 dX11_init_321 ?_
    refine lv_iload_n hx hb dX11_init_324 rfl (lv_at hl 1 rfl) ?_
    refine lv_iconst (v := (-1)) hx hb dX11_init_325 (by decide) ?_
    obtain ⟨M_2, e_2, h⟩ := olt h
    refine rG_iast C hS rfl (by omega) rfl b_4 e_2 dX11_init_326 (fun H locs hS => ?_)
    refine lv_aload_n hx hb dX11_init_327 rfl (lv_at hl 0 rfl) ?_
    refine rG_gR C hS fl_X11_51 rfl rfl (by omega) h3 dX11_init_328 ?_
    refine lv_iload_n hx hb dX11_init_331 rfl (lv_at hl 1 rfl) ?_
    refine lv_iconst (v := (-1)) hx hb dX11_init_332 (by decide) ?_
    obtain ⟨M_3, e_3, h⟩ := olt h
    refine rG_iast C hS rfl (by omega) rfl b_4 e_3 dX11_init_333 (fun H locs hS => ?_)
    obtain ⟨x1_4, e_4, h⟩ := olt h
    refine lv_iinc (v := x1_4) (lv' := [(1, .int x1_4), (0, .ref (G.1 + 63))]) hx hb dX11_init_334 hl (k := 1) rfl (by rw [e_4]; rfl) (by decide) rfl (fun ls hl => ?_)
    refine lv_goto (tgt := 306) hx hb dX11_init_337 (by decide) ?_
    obtain rfl := Option.some.inj h
    exact hE _ _ _ hS (lv_sub hl [1, 0] rfl)
def zF3 (M : zM) (n : Nat) : zM := zFill (zFill (zFill M 74 n (-1)) 76 n (-1)) 77 n (-1)
theorem zI_fill {M : zM} {a b n k : Nat} {x v : Int32} (h : a ≠ b) : zI (zFill M a n x) b k v = zFill (zI M b k v) a n x := by
  refine zM_ext (fun c => ?_) (fun _ => rfl)
  unfold zFill zI va_up upd
  by_cases h1 : c = a
  · subst h1; simp [h]
  · by_cases h2 : c = b
    · subst h2; simp [h1]
    · simp [h1, h2]
theorem zF3_s {M : zM} {n : Nat} : zI (zI (zI (zF3 M n) 74 n (-1)) 76 n (-1)) 77 n (-1) = zF3 M (n + 1) := by
  unfold zF3
  rw [zI_fill (a := 77) (b := 74) (by decide), zI_fill (a := 76) (b := 74) (by decide), zFill_s, zI_fill (a := 77) (b := 76) (by decide), zFill_s, zFill_s]
theorem mod_fill {F : Nat} {M : zM} (hF : 3000 < F) : loopN Mod_init_B306 F (0, M) = some (1, 0, zF3 M 3000) := by
  have key := loopN_seq (body := Mod_init_B306) 3000 (fun i => (nI i, zF3 M i)) (1, 0, zF3 M 3000) F (fun i hi => by
    show (if nI 3000 ≤ nI i then some (1, 0, zF3 M i) else if inb (nI i) 3000 = true then some (0, nI i + 1, zI (zI (zI (zF3 M i) 74 (nI i).toNatClampNeg (-1)) 76 (nI i).toNatClampNeg (-1)) 77 (nI i).toNatClampNeg (-1)) else none) = _
    rw [if_neg (nI_ge (b := 3000) hi (by decide)), if_pos (inb_nI hi (by decide)), nI_clamp (by omega), zF3_s, nI_1]) (by
    unfold Mod_init_B306
    exact if_pos (by decide)) (fun h => by cases h) hF
  have e0 : zF3 M 0 = M := by unfold zF3; rw [zFill_0, zFill_0, zFill_0]
  simp only [e0, nI_0] at key
  exact key
def xM3 : zM := zF3 xM2 3000
set_option maxHeartbeats 8000000 in
set_option maxRecDepth 100000 in
theorem g_X11_init (l : Launch) (G : Gl) (F : Nat) (hFu : 3000 < F) (hF : Fr xR100 64 xM1) : Met l yX11_init (wsM yX11_init cX11_init 2 none) (rmC 1 21 35 47293) (PreG G xR100 64 xM1 [.ref (G.1 + 63)]) (PoG G xR135 99 xM3) 35 47293 (gA G) := by
  refine rG_met (own := RX11) rfl (by decide) (Nat.le_of_ble_eq_true rfl) ?_
  intro p e s m below meth c ls C hr hlk hin hS hl
  have hl : lv_has ls 2 [(0, .ref (G.1 + 63))] := hl
  obtain ⟨hx, hb, hml, hown, hts, hK, hX⟩ := id C
  refine lv_aload_n hx hb dX11_init_0 rfl (lv_at hl 0 rfl) ?_
  refine W.objInit hx hb hown (hts _ tw_890) (hts _ wobi) (hts _ wob) rfl (by rw [hml]; exact hl.1) rfl dX11_init_1 (by decide) (Nat.le_of_ble_eq_true rfl) ?_
  refine W.eq (g2 := F0 m 4 ls []) rfl ?_
  refine lv_aload_n hx hb dX11_init_4 rfl (lv_at hl 0 rfl) ?_
  refine lv_iconst (v := 3) hx hb dX11_init_5 (by decide) ?_
  refine rG_new_int C hS rfl hF tw_88 (by decide) (by decide) rfl (by decide) ⟨by decide, by decide⟩ dX11_init_6 (fun H hS => ?_)
  have hF := hF.up (n' := 65) (by omega)
  refine rG_pR C hS cl_X11 (k := 0) (by decide) tw_891 rfl hin rfl (ty := (.array .int)) (by decide +kernel) rfl rfl rfl rfl (by decide) dX11_init_8 (fun H locs hS => ?_)
  have hF := Fr.setR (a := 63) (k := 0) (r := 64) hF (by decide)
  have hS : StG G xR101 65 xM1 s H locs := hS
  have hF : Fr xR101 65 xM1 := hF
  refine lv_aload_n hx hb dX11_init_11 rfl (lv_at hl 0 rfl) ?_
  refine lv_bipush (v := 36) hx hb dX11_init_12 (by decide) ?_
  refine rG_new_boolean C hS rfl hF tw_89 (by decide) (by decide) rfl (by decide) ⟨by decide, by decide⟩ dX11_init_14 (fun H hS => ?_)
  have hF := hF.up (n' := 66) (by omega)
  refine rG_pR C hS cl_X11 (k := 1) (by decide) tw_892 rfl hin rfl (ty := (.array .boolean)) (by decide +kernel) rfl rfl rfl rfl (by decide) dX11_init_16 (fun H locs hS => ?_)
  have hF := Fr.setR (a := 63) (k := 1) (r := 65) hF (by decide)
  have hS : StG G xR102 66 xM1 s H locs := hS
  have hF : Fr xR102 66 xM1 := hF
  refine lv_aload_n hx hb dX11_init_19 rfl (lv_at hl 0 rfl) ?_
  refine lv_bipush (v := 36) hx hb dX11_init_20 (by decide) ?_
  refine rG_new_int C hS rfl hF tw_88 (by decide) (by decide) rfl (by decide) ⟨by decide, by decide⟩ dX11_init_22 (fun H hS => ?_)
  have hF := hF.up (n' := 67) (by omega)
  refine rG_pR C hS cl_X11 (k := 2) (by decide) tw_893 rfl hin rfl (ty := (.array .int)) (by decide +kernel) rfl rfl rfl rfl (by decide) dX11_init_24 (fun H locs hS => ?_)
  have hF := Fr.setR (a := 63) (k := 2) (r := 66) hF (by decide)
  have hS : StG G xR103 67 xM1 s H locs := hS
  have hF : Fr xR103 67 xM1 := hF
  refine lv_aload_n hx hb dX11_init_27 rfl (lv_at hl 0 rfl) ?_
  refine lv_bipush (v := 36) hx hb dX11_init_28 (by decide) ?_
  refine rG_new_int C hS rfl hF tw_88 (by decide) (by decide) rfl (by decide) ⟨by decide, by decide⟩ dX11_init_30 (fun H hS => ?_)
  have hF := hF.up (n' := 68) (by omega)
  refine rG_pR C hS cl_X11 (k := 3) (by decide) tw_894 rfl hin rfl (ty := (.array .int)) (by decide +kernel) rfl rfl rfl rfl (by decide) dX11_init_32 (fun H locs hS => ?_)
  have hF := Fr.setR (a := 63) (k := 3) (r := 67) hF (by decide)
  have hS : StG G xR104 68 xM1 s H locs := hS
  have hF : Fr xR104 68 xM1 := hF
  refine lv_aload_n hx hb dX11_init_35 rfl (lv_at hl 0 rfl) ?_
  refine lv_bipush (v := 36) hx hb dX11_init_36 (by decide) ?_
  refine rG_new_int C hS rfl hF tw_88 (by decide) (by decide) rfl (by decide) ⟨by decide, by decide⟩ dX11_init_38 (fun H hS => ?_)
  have hF := hF.up (n' := 69) (by omega)
  refine rG_pR C hS cl_X11 (k := 4) (by decide) tw_895 rfl hin rfl (ty := (.array .int)) (by decide +kernel) rfl rfl rfl rfl (by decide) dX11_init_40 (fun H locs hS => ?_)
  have hF := Fr.setR (a := 63) (k := 4) (r := 68) hF (by decide)
  have hS : StG G xR105 69 xM1 s H locs := hS
  have hF : Fr xR105 69 xM1 := hF
  refine lv_aload_n hx hb dX11_init_43 rfl (lv_at hl 0 rfl) ?_
  refine lv_bipush (v := 36) hx hb dX11_init_44 (by decide) ?_
  refine rG_new_int C hS rfl hF tw_88 (by decide) (by decide) rfl (by decide) ⟨by decide, by decide⟩ dX11_init_46 (fun H hS => ?_)
  have hF := hF.up (n' := 70) (by omega)
  refine rG_pR C hS cl_X11 (k := 5) (by decide) tw_896 rfl hin rfl (ty := (.array .int)) (by decide +kernel) rfl rfl rfl rfl (by decide) dX11_init_48 (fun H locs hS => ?_)
  have hF := Fr.setR (a := 63) (k := 5) (r := 69) hF (by decide)
  have hS : StG G xR106 70 xM1 s H locs := hS
  have hF : Fr xR106 70 xM1 := hF
  refine lv_aload_n hx hb dX11_init_51 rfl (lv_at hl 0 rfl) ?_
  refine lv_sipush (v := 288) hx hb dX11_init_52 (by decide) ?_
  refine rG_new_int C hS rfl hF tw_88 (by decide) (by decide) rfl (by decide) ⟨by decide, by decide⟩ dX11_init_55 (fun H hS => ?_)
  have hF := hF.up (n' := 71) (by omega)
  refine rG_pR C hS cl_X11 (k := 6) (by decide) tw_897 rfl hin rfl (ty := (.array .int)) (by decide +kernel) rfl rfl rfl rfl (by decide) dX11_init_57 (fun H locs hS => ?_)
  have hF := Fr.setR (a := 63) (k := 6) (r := 70) hF (by decide)
  have hS : StG G xR107 71 xM1 s H locs := hS
  have hF : Fr xR107 71 xM1 := hF
  refine lv_aload_n hx hb dX11_init_60 rfl (lv_at hl 0 rfl) ?_
  refine lv_sipush (v := 288) hx hb dX11_init_61 (by decide) ?_
  refine rG_new_boolean C hS rfl hF tw_89 (by decide) (by decide) rfl (by decide) ⟨by decide, by decide⟩ dX11_init_64 (fun H hS => ?_)
  have hF := hF.up (n' := 72) (by omega)
  refine rG_pR C hS cl_X11 (k := 7) (by decide) tw_898 rfl hin rfl (ty := (.array .boolean)) (by decide +kernel) rfl rfl rfl rfl (by decide) dX11_init_66 (fun H locs hS => ?_)
  have hF := Fr.setR (a := 63) (k := 7) (r := 71) hF (by decide)
  have hS : StG G xR108 72 xM1 s H locs := hS
  have hF : Fr xR108 72 xM1 := hF
  refine lv_aload_n hx hb dX11_init_69 rfl (lv_at hl 0 rfl) ?_
  refine lv_sipush (v := 288) hx hb dX11_init_70 (by decide) ?_
  refine rG_new_int C hS rfl hF tw_88 (by decide) (by decide) rfl (by decide) ⟨by decide, by decide⟩ dX11_init_73 (fun H hS => ?_)
  have hF := hF.up (n' := 73) (by omega)
  refine rG_pR C hS cl_X11 (k := 8) (by decide) tw_899 rfl hin rfl (ty := (.array .int)) (by decide +kernel) rfl rfl rfl rfl (by decide) dX11_init_75 (fun H locs hS => ?_)
  have hF := Fr.setR (a := 63) (k := 8) (r := 72) hF (by decide)
  have hS : StG G xR109 73 xM1 s H locs := hS
  have hF : Fr xR109 73 xM1 := hF
  refine lv_aload_n hx hb dX11_init_78 rfl (lv_at hl 0 rfl) ?_
  refine lv_sipush (v := 3456) hx hb dX11_init_79 (by decide) ?_
  refine rG_new_int C hS rfl hF tw_88 (by decide) (by decide) rfl (by decide) ⟨by decide, by decide⟩ dX11_init_82 (fun H hS => ?_)
  have hF := hF.up (n' := 74) (by omega)
  refine rG_pR C hS cl_X11 (k := 9) (by decide) tw_900 rfl hin rfl (ty := (.array .int)) (by decide +kernel) rfl rfl rfl rfl (by decide) dX11_init_84 (fun H locs hS => ?_)
  have hF := Fr.setR (a := 63) (k := 9) (r := 73) hF (by decide)
  have hS : StG G xR110 74 xM1 s H locs := hS
  have hF : Fr xR110 74 xM1 := hF
  refine lv_aload_n hx hb dX11_init_87 rfl (lv_at hl 0 rfl) ?_
  refine lv_sipush (v := 3000) hx hb dX11_init_88 (by decide) ?_
  refine rG_new_int C hS rfl hF tw_88 (by decide) (by decide) rfl (by decide) ⟨by decide, by decide⟩ dX11_init_91 (fun H hS => ?_)
  have hF := hF.up (n' := 75) (by omega)
  refine rG_pR C hS cl_X11 (k := 10) (by decide) tw_901 rfl hin rfl (ty := (.array .int)) (by decide +kernel) rfl rfl rfl rfl (by decide) dX11_init_93 (fun H locs hS => ?_)
  have hF := Fr.setR (a := 63) (k := 10) (r := 74) hF (by decide)
  have hS : StG G xR111 75 xM1 s H locs := hS
  have hF : Fr xR111 75 xM1 := hF
  refine lv_aload_n hx hb dX11_init_96 rfl (lv_at hl 0 rfl) ?_
  refine lv_sipush (v := 24000) hx hb dX11_init_97 (by decide) ?_
  refine rG_new_long C hS rfl hF tw_90 (by decide) (by decide) rfl (by decide) ⟨by decide, by decide⟩ dX11_init_100 (fun H hS => ?_)
  have hF := hF.up (n' := 76) (by omega)
  refine rG_pR C hS cl_X11 (k := 11) (by decide) tw_902 rfl hin rfl (ty := (.array .long)) (by decide +kernel) rfl rfl rfl rfl (by decide) dX11_init_102 (fun H locs hS => ?_)
  have hF := Fr.setR (a := 63) (k := 11) (r := 75) hF (by decide)
  have hS : StG G xR112 76 xM1 s H locs := hS
  have hF : Fr xR112 76 xM1 := hF
  refine lv_aload_n hx hb dX11_init_105 rfl (lv_at hl 0 rfl) ?_
  refine lv_sipush (v := 3000) hx hb dX11_init_106 (by decide) ?_
  refine rG_new_int C hS rfl hF tw_88 (by decide) (by decide) rfl (by decide) ⟨by decide, by decide⟩ dX11_init_109 (fun H hS => ?_)
  have hF := hF.up (n' := 77) (by omega)
  refine rG_pR C hS cl_X11 (k := 12) (by decide) tw_903 rfl hin rfl (ty := (.array .int)) (by decide +kernel) rfl rfl rfl rfl (by decide) dX11_init_111 (fun H locs hS => ?_)
  have hF := Fr.setR (a := 63) (k := 12) (r := 76) hF (by decide)
  have hS : StG G xR113 77 xM1 s H locs := hS
  have hF : Fr xR113 77 xM1 := hF
  refine lv_aload_n hx hb dX11_init_114 rfl (lv_at hl 0 rfl) ?_
  refine lv_sipush (v := 3000) hx hb dX11_init_115 (by decide) ?_
  refine rG_new_int C hS rfl hF tw_88 (by decide) (by decide) rfl (by decide) ⟨by decide, by decide⟩ dX11_init_118 (fun H hS => ?_)
  have hF := hF.up (n' := 78) (by omega)
  refine rG_pR C hS cl_X11 (k := 13) (by decide) tw_904 rfl hin rfl (ty := (.array .int)) (by decide +kernel) rfl rfl rfl rfl (by decide) dX11_init_120 (fun H locs hS => ?_)
  have hF := Fr.setR (a := 63) (k := 13) (r := 77) hF (by decide)
  have hS : StG G xR114 78 xM1 s H locs := hS
  have hF : Fr xR114 78 xM1 := hF
  refine lv_aload_n hx hb dX11_init_123 rfl (lv_at hl 0 rfl) ?_
  refine lv_sipush (v := 3000) hx hb dX11_init_124 (by decide) ?_
  refine rG_new_int C hS rfl hF tw_88 (by decide) (by decide) rfl (by decide) ⟨by decide, by decide⟩ dX11_init_127 (fun H hS => ?_)
  have hF := hF.up (n' := 79) (by omega)
  refine rG_pR C hS cl_X11 (k := 14) (by decide) tw_905 rfl hin rfl (ty := (.array .int)) (by decide +kernel) rfl rfl rfl rfl (by decide) dX11_init_129 (fun H locs hS => ?_)
  have hF := Fr.setR (a := 63) (k := 14) (r := 78) hF (by decide)
  have hS : StG G xR115 79 xM1 s H locs := hS
  have hF : Fr xR115 79 xM1 := hF
  refine lv_aload_n hx hb dX11_init_132 rfl (lv_at hl 0 rfl) ?_
  refine lv_sipush (v := 240) hx hb dX11_init_133 (by decide) ?_
  refine rG_new_int C hS rfl hF tw_88 (by decide) (by decide) rfl (by decide) ⟨by decide, by decide⟩ dX11_init_136 (fun H hS => ?_)
  have hF := hF.up (n' := 80) (by omega)
  refine rG_pR C hS cl_X11 (k := 15) (by decide) tw_906 rfl hin rfl (ty := (.array .int)) (by decide +kernel) rfl rfl rfl rfl (by decide) dX11_init_138 (fun H locs hS => ?_)
  have hF := Fr.setR (a := 63) (k := 15) (r := 79) hF (by decide)
  have hS : StG G xR116 80 xM1 s H locs := hS
  have hF : Fr xR116 80 xM1 := hF
  refine lv_aload_n hx hb dX11_init_141 rfl (lv_at hl 0 rfl) ?_
  refine lv_iconst (v := (-1)) hx hb dX11_init_142 (by decide) ?_
  refine rG_put C hS fp_X11_60 rfl (by decide) (by decide) rfl (by decide) rfl dX11_init_143 (fun H locs hS => ?_)
  have hF := hF.zI (a := 63) (k := 17) (v := (-1)) (by decide)
  have hS : StG G xR116 80 (zI xM1 63 17 (-1)) s H locs := hS
  refine lv_aload_n hx hb dX11_init_146 rfl (lv_at hl 0 rfl) ?_
  refine lv_bipush (v := 12) hx hb dX11_init_147 (by decide) ?_
  refine rG_new_boolean C hS rfl hF tw_89 (by decide) (by decide) rfl (by decide) ⟨by decide, by decide⟩ dX11_init_149 (fun H hS => ?_)
  have hF := hF.up (n' := 81) (by omega)
  refine rG_pR C hS cl_X11 (k := 20) (by decide) tw_911 rfl hin rfl (ty := (.array .boolean)) (by decide +kernel) rfl rfl rfl rfl (by decide) dX11_init_151 (fun H locs hS => ?_)
  have hF := Fr.setR (a := 63) (k := 20) (r := 80) hF (by decide)
  have hS : StG G xR117 81 (zI xM1 63 17 (-1)) s H locs := hS
  have hF : Fr xR117 81 (zI xM1 63 17 (-1)) := hF
  refine lv_aload_n hx hb dX11_init_154 rfl (lv_at hl 0 rfl) ?_
  refine lv_bipush (v := 12) hx hb dX11_init_155 (by decide) ?_
  refine rG_new_int C hS rfl hF tw_88 (by decide) (by decide) rfl (by decide) ⟨by decide, by decide⟩ dX11_init_157 (fun H hS => ?_)
  have hF := hF.up (n' := 82) (by omega)
  refine rG_pR C hS cl_X11 (k := 21) (by decide) tw_912 rfl hin rfl (ty := (.array .int)) (by decide +kernel) rfl rfl rfl rfl (by decide) dX11_init_159 (fun H locs hS => ?_)
  have hF := Fr.setR (a := 63) (k := 21) (r := 81) hF (by decide)
  have hS : StG G xR118 82 (zI xM1 63 17 (-1)) s H locs := hS
  have hF : Fr xR118 82 (zI xM1 63 17 (-1)) := hF
  refine lv_aload_n hx hb dX11_init_162 rfl (lv_at hl 0 rfl) ?_
  refine lv_bipush (v := 12) hx hb dX11_init_163 (by decide) ?_
  refine rG_new_int C hS rfl hF tw_88 (by decide) (by decide) rfl (by decide) ⟨by decide, by decide⟩ dX11_init_165 (fun H hS => ?_)
  have hF := hF.up (n' := 83) (by omega)
  refine rG_pR C hS cl_X11 (k := 22) (by decide) tw_913 rfl hin rfl (ty := (.array .int)) (by decide +kernel) rfl rfl rfl rfl (by decide) dX11_init_167 (fun H locs hS => ?_)
  have hF := Fr.setR (a := 63) (k := 22) (r := 82) hF (by decide)
  have hS : StG G xR119 83 (zI xM1 63 17 (-1)) s H locs := hS
  have hF : Fr xR119 83 (zI xM1 63 17 (-1)) := hF
  refine lv_aload_n hx hb dX11_init_170 rfl (lv_at hl 0 rfl) ?_
  refine lv_bipush (v := 12) hx hb dX11_init_171 (by decide) ?_
  refine rG_new_int C hS rfl hF tw_88 (by decide) (by decide) rfl (by decide) ⟨by decide, by decide⟩ dX11_init_173 (fun H hS => ?_)
  have hF := hF.up (n' := 84) (by omega)
  refine rG_pR C hS cl_X11 (k := 23) (by decide) tw_914 rfl hin rfl (ty := (.array .int)) (by decide +kernel) rfl rfl rfl rfl (by decide) dX11_init_175 (fun H locs hS => ?_)
  have hF := Fr.setR (a := 63) (k := 23) (r := 83) hF (by decide)
  have hS : StG G xR120 84 (zI xM1 63 17 (-1)) s H locs := hS
  have hF : Fr xR120 84 (zI xM1 63 17 (-1)) := hF
  refine lv_aload_n hx hb dX11_init_178 rfl (lv_at hl 0 rfl) ?_
  refine lv_bipush (v := 12) hx hb dX11_init_179 (by decide) ?_
  refine rG_new_int C hS rfl hF tw_88 (by decide) (by decide) rfl (by decide) ⟨by decide, by decide⟩ dX11_init_181 (fun H hS => ?_)
  have hF := hF.up (n' := 85) (by omega)
  refine rG_pR C hS cl_X11 (k := 24) (by decide) tw_915 rfl hin rfl (ty := (.array .int)) (by decide +kernel) rfl rfl rfl rfl (by decide) dX11_init_183 (fun H locs hS => ?_)
  have hF := Fr.setR (a := 63) (k := 24) (r := 84) hF (by decide)
  have hS : StG G xR121 85 (zI xM1 63 17 (-1)) s H locs := hS
  have hF : Fr xR121 85 (zI xM1 63 17 (-1)) := hF
  refine lv_aload_n hx hb dX11_init_186 rfl (lv_at hl 0 rfl) ?_
  refine lv_bipush (v := 96) hx hb dX11_init_187 (by decide) ?_
  refine rG_new_int C hS rfl hF tw_88 (by decide) (by decide) rfl (by decide) ⟨by decide, by decide⟩ dX11_init_189 (fun H hS => ?_)
  have hF := hF.up (n' := 86) (by omega)
  refine rG_pR C hS cl_X11 (k := 25) (by decide) tw_916 rfl hin rfl (ty := (.array .int)) (by decide +kernel) rfl rfl rfl rfl (by decide) dX11_init_191 (fun H locs hS => ?_)
  have hF := Fr.setR (a := 63) (k := 25) (r := 85) hF (by decide)
  have hS : StG G xR122 86 (zI xM1 63 17 (-1)) s H locs := hS
  have hF : Fr xR122 86 (zI xM1 63 17 (-1)) := hF
  refine lv_aload_n hx hb dX11_init_194 rfl (lv_at hl 0 rfl) ?_
  refine lv_bipush (v := 96) hx hb dX11_init_195 (by decide) ?_
  refine rG_new_boolean C hS rfl hF tw_89 (by decide) (by decide) rfl (by decide) ⟨by decide, by decide⟩ dX11_init_197 (fun H hS => ?_)
  have hF := hF.up (n' := 87) (by omega)
  refine rG_pR C hS cl_X11 (k := 26) (by decide) tw_917 rfl hin rfl (ty := (.array .boolean)) (by decide +kernel) rfl rfl rfl rfl (by decide) dX11_init_199 (fun H locs hS => ?_)
  have hF := Fr.setR (a := 63) (k := 26) (r := 86) hF (by decide)
  have hS : StG G xR123 87 (zI xM1 63 17 (-1)) s H locs := hS
  have hF : Fr xR123 87 (zI xM1 63 17 (-1)) := hF
  refine lv_aload_n hx hb dX11_init_202 rfl (lv_at hl 0 rfl) ?_
  refine lv_bipush (v := 96) hx hb dX11_init_203 (by decide) ?_
  refine rG_new_int C hS rfl hF tw_88 (by decide) (by decide) rfl (by decide) ⟨by decide, by decide⟩ dX11_init_205 (fun H hS => ?_)
  have hF := hF.up (n' := 88) (by omega)
  refine rG_pR C hS cl_X11 (k := 27) (by decide) tw_918 rfl hin rfl (ty := (.array .int)) (by decide +kernel) rfl rfl rfl rfl (by decide) dX11_init_207 (fun H locs hS => ?_)
  have hF := Fr.setR (a := 63) (k := 27) (r := 87) hF (by decide)
  have hS : StG G xR124 88 (zI xM1 63 17 (-1)) s H locs := hS
  have hF : Fr xR124 88 (zI xM1 63 17 (-1)) := hF
  refine lv_aload_n hx hb dX11_init_210 rfl (lv_at hl 0 rfl) ?_
  refine lv_sipush (v := 1152) hx hb dX11_init_211 (by decide) ?_
  refine rG_new_int C hS rfl hF tw_88 (by decide) (by decide) rfl (by decide) ⟨by decide, by decide⟩ dX11_init_214 (fun H hS => ?_)
  have hF := hF.up (n' := 89) (by omega)
  refine rG_pR C hS cl_X11 (k := 28) (by decide) tw_919 rfl hin rfl (ty := (.array .int)) (by decide +kernel) rfl rfl rfl rfl (by decide) dX11_init_216 (fun H locs hS => ?_)
  have hF := Fr.setR (a := 63) (k := 28) (r := 88) hF (by decide)
  have hS : StG G xR125 89 (zI xM1 63 17 (-1)) s H locs := hS
  have hF : Fr xR125 89 (zI xM1 63 17 (-1)) := hF
  refine lv_aload_n hx hb dX11_init_219 rfl (lv_at hl 0 rfl) ?_
  refine lv_sipush (v := 800) hx hb dX11_init_220 (by decide) ?_
  refine rG_new_int C hS rfl hF tw_88 (by decide) (by decide) rfl (by decide) ⟨by decide, by decide⟩ dX11_init_223 (fun H hS => ?_)
  have hF := hF.up (n' := 90) (by omega)
  refine rG_pR C hS cl_X11 (k := 32) (by decide) tw_923 rfl hin rfl (ty := (.array .int)) (by decide +kernel) rfl rfl rfl rfl (by decide) dX11_init_225 (fun H locs hS => ?_)
  have hF := Fr.setR (a := 63) (k := 32) (r := 89) hF (by decide)
  have hS : StG G xR126 90 (zI xM1 63 17 (-1)) s H locs := hS
  have hF : Fr xR126 90 (zI xM1 63 17 (-1)) := hF
  refine lv_aload_n hx hb dX11_init_228 rfl (lv_at hl 0 rfl) ?_
  refine lv_sipush (v := 1000) hx hb dX11_init_229 (by decide) ?_
  refine rG_new_int C hS rfl hF tw_88 (by decide) (by decide) rfl (by decide) ⟨by decide, by decide⟩ dX11_init_232 (fun H hS => ?_)
  have hF := hF.up (n' := 91) (by omega)
  refine rG_pR C hS cl_X11 (k := 34) (by decide) tw_925 rfl hin rfl (ty := (.array .int)) (by decide +kernel) rfl rfl rfl rfl (by decide) dX11_init_234 (fun H locs hS => ?_)
  have hF := Fr.setR (a := 63) (k := 34) (r := 90) hF (by decide)
  have hS : StG G xR127 91 (zI xM1 63 17 (-1)) s H locs := hS
  have hF : Fr xR127 91 (zI xM1 63 17 (-1)) := hF
  refine lv_aload_n hx hb dX11_init_237 rfl (lv_at hl 0 rfl) ?_
  refine lv_sipush (v := 1000) hx hb dX11_init_238 (by decide) ?_
  refine rG_new_int C hS rfl hF tw_88 (by decide) (by decide) rfl (by decide) ⟨by decide, by decide⟩ dX11_init_241 (fun H hS => ?_)
  have hF := hF.up (n' := 92) (by omega)
  refine rG_pR C hS cl_X11 (k := 38) (by decide) tw_929 rfl hin rfl (ty := (.array .int)) (by decide +kernel) rfl rfl rfl rfl (by decide) dX11_init_243 (fun H locs hS => ?_)
  have hF := Fr.setR (a := 63) (k := 38) (r := 91) hF (by decide)
  have hS : StG G xR128 92 (zI xM1 63 17 (-1)) s H locs := hS
  have hF : Fr xR128 92 (zI xM1 63 17 (-1)) := hF
  refine lv_aload_n hx hb dX11_init_246 rfl (lv_at hl 0 rfl) ?_
  refine lv_bipush (v := 60) hx hb dX11_init_247 (by decide) ?_
  refine rG_new_int C hS rfl hF tw_88 (by decide) (by decide) rfl (by decide) ⟨by decide, by decide⟩ dX11_init_249 (fun H hS => ?_)
  have hF := hF.up (n' := 93) (by omega)
  refine rG_pR C hS cl_X11 (k := 39) (by decide) tw_930 rfl hin rfl (ty := (.array .int)) (by decide +kernel) rfl rfl rfl rfl (by decide) dX11_init_251 (fun H locs hS => ?_)
  have hF := Fr.setR (a := 63) (k := 39) (r := 92) hF (by decide)
  have hS : StG G xR129 93 (zI xM1 63 17 (-1)) s H locs := hS
  have hF : Fr xR129 93 (zI xM1 63 17 (-1)) := hF
  refine lv_aload_n hx hb dX11_init_254 rfl (lv_at hl 0 rfl) ?_
  refine lv_bipush (v := 60) hx hb dX11_init_255 (by decide) ?_
  refine rG_new_int C hS rfl hF tw_88 (by decide) (by decide) rfl (by decide) ⟨by decide, by decide⟩ dX11_init_257 (fun H hS => ?_)
  have hF := hF.up (n' := 94) (by omega)
  refine rG_pR C hS cl_X11 (k := 40) (by decide) tw_931 rfl hin rfl (ty := (.array .int)) (by decide +kernel) rfl rfl rfl rfl (by decide) dX11_init_259 (fun H locs hS => ?_)
  have hF := Fr.setR (a := 63) (k := 40) (r := 93) hF (by decide)
  have hS : StG G xR130 94 (zI xM1 63 17 (-1)) s H locs := hS
  have hF : Fr xR130 94 (zI xM1 63 17 (-1)) := hF
  refine lv_aload_n hx hb dX11_init_262 rfl (lv_at hl 0 rfl) ?_
  refine lv_sipush (v := 1000) hx hb dX11_init_263 (by decide) ?_
  refine rG_new_long C hS rfl hF tw_90 (by decide) (by decide) rfl (by decide) ⟨by decide, by decide⟩ dX11_init_266 (fun H hS => ?_)
  have hF := hF.up (n' := 95) (by omega)
  refine rG_pR C hS cl_X11 (k := 41) (by decide) tw_932 rfl hin rfl (ty := (.array .long)) (by decide +kernel) rfl rfl rfl rfl (by decide) dX11_init_268 (fun H locs hS => ?_)
  have hF := Fr.setR (a := 63) (k := 41) (r := 94) hF (by decide)
  have hS : StG G xR131 95 (zI xM1 63 17 (-1)) s H locs := hS
  have hF : Fr xR131 95 (zI xM1 63 17 (-1)) := hF
  refine lv_aload_n hx hb dX11_init_271 rfl (lv_at hl 0 rfl) ?_
  refine lv_bipush (v := 60) hx hb dX11_init_272 (by decide) ?_
  refine rG_new_int C hS rfl hF tw_88 (by decide) (by decide) rfl (by decide) ⟨by decide, by decide⟩ dX11_init_274 (fun H hS => ?_)
  have hF := hF.up (n' := 96) (by omega)
  refine rG_pR C hS cl_X11 (k := 43) (by decide) tw_934 rfl hin rfl (ty := (.array .int)) (by decide +kernel) rfl rfl rfl rfl (by decide) dX11_init_276 (fun H locs hS => ?_)
  have hF := Fr.setR (a := 63) (k := 43) (r := 95) hF (by decide)
  have hS : StG G xR132 96 (zI xM1 63 17 (-1)) s H locs := hS
  have hF : Fr xR132 96 (zI xM1 63 17 (-1)) := hF
  refine lv_aload_n hx hb dX11_init_279 rfl (lv_at hl 0 rfl) ?_
  refine lv_bipush (v := 61) hx hb dX11_init_280 (by decide) ?_
  refine rG_new_int C hS rfl hF tw_88 (by decide) (by decide) rfl (by decide) ⟨by decide, by decide⟩ dX11_init_282 (fun H hS => ?_)
  have hF := hF.up (n' := 97) (by omega)
  refine rG_pR C hS cl_X11 (k := 44) (by decide) tw_935 rfl hin rfl (ty := (.array .int)) (by decide +kernel) rfl rfl rfl rfl (by decide) dX11_init_284 (fun H locs hS => ?_)
  have hF := Fr.setR (a := 63) (k := 44) (r := 96) hF (by decide)
  have hS : StG G xR133 97 (zI xM1 63 17 (-1)) s H locs := hS
  have hF : Fr xR133 97 (zI xM1 63 17 (-1)) := hF
  refine lv_aload_n hx hb dX11_init_287 rfl (lv_at hl 0 rfl) ?_
  refine lv_sipush (v := 1000) hx hb dX11_init_288 (by decide) ?_
  refine rG_new_boolean C hS rfl hF tw_89 (by decide) (by decide) rfl (by decide) ⟨by decide, by decide⟩ dX11_init_291 (fun H hS => ?_)
  have hF := hF.up (n' := 98) (by omega)
  refine rG_pR C hS cl_X11 (k := 45) (by decide) tw_936 rfl hin rfl (ty := (.array .boolean)) (by decide +kernel) rfl rfl rfl rfl (by decide) dX11_init_293 (fun H locs hS => ?_)
  have hF := Fr.setR (a := 63) (k := 45) (r := 97) hF (by decide)
  have hS : StG G xR134 98 (zI xM1 63 17 (-1)) s H locs := hS
  have hF : Fr xR134 98 (zI xM1 63 17 (-1)) := hF
  refine lv_aload_n hx hb dX11_init_296 rfl (lv_at hl 0 rfl) ?_
  refine lv_bipush (v := 9) hx hb dX11_init_297 (by decide) ?_
  refine rG_new_int C hS rfl hF tw_88 (by decide) (by decide) rfl (by decide) ⟨by decide, by decide⟩ dX11_init_299 (fun H hS => ?_)
  have hF := hF.up (n' := 99) (by omega)
  refine rG_pR C hS cl_X11 (k := 46) (by decide) tw_937 rfl hin rfl (ty := (.array .int)) (by decide +kernel) rfl rfl rfl rfl (by decide) dX11_init_301 (fun H locs hS => ?_)
  have hF := Fr.setR (a := 63) (k := 46) (r := 98) hF (by decide)
  have hS : StG G xR135 99 (zI xM1 63 17 (-1)) s H locs := hS
  have hF : Fr xR135 99 (zI xM1 63 17 (-1)) := hF
  refine lv_iconst (v := 0) hx hb dX11_init_304 (by decide) ?_
  refine lv_istore_n (lv' := [(1, .int 0), (0, .ref (G.1 + 63))]) hx hb dX11_init_305 rfl hl (by decide) rfl (fun ls hl => ?_)
  refine loopW (E := (gE_mod G 99 p l e s m _ below meth c _ _ _ _ xR135)) (gw_mod C (by decide) (by decide) (by decide) (by decide)) F _ _ (mod_fill hFu) ?_ _ _ _ hS (lv_sub hl [1, 0] rfl)
  intro H locs ls hS hl
  exact rG_vret C hS hr hlk dX11_init_340

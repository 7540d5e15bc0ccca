theorem dJ0_checkIndex_df160_0 : decode cJ0_checkIndex_df160 0 = .ok (.iload_n 0, 1) := by decide +kernel
theorem dJ0_checkIndex_df160_1 : decode cJ0_checkIndex_df160 1 = .ok (.iload_n 1, 1) := by decide +kernel
theorem dJ0_checkIndex_df160_2 : decode cJ0_checkIndex_df160 2 = .ok (.getstatic 1053, 3) := by decide +kernel
theorem dJ0_checkIndex_df160_5 : decode cJ0_checkIndex_df160 5 = .ok (.invokestatic 1059, 3) := by decide +kernel
theorem dJ0_checkIndex_df160_8 : decode cJ0_checkIndex_df160 8 = .ok (.pop, 1) := by decide +kernel
theorem dJ0_checkIndex_df160_9 : decode cJ0_checkIndex_df160 9 = .ok (.return_, 1) := by decide +kernel
theorem dJ3_checkIndex_8e157_0 : decode cJ3_checkIndex_8e157 0 = .ok (.iload_n 0, 1) := by decide +kernel
theorem dJ3_checkIndex_8e157_1 : decode cJ3_checkIndex_8e157 1 = .ok (.ifCond .lt 8, 3) := by decide +kernel
theorem dJ3_checkIndex_8e157_4 : decode cJ3_checkIndex_8e157 4 = .ok (.iload_n 0, 1) := by decide +kernel
theorem dJ3_checkIndex_8e157_5 : decode cJ3_checkIndex_8e157 5 = .ok (.iload_n 1, 1) := by decide +kernel
theorem dJ3_checkIndex_8e157_6 : decode cJ3_checkIndex_8e157 6 = .ok (.if_icmp .lt 10, 3) := by decide +kernel
theorem dJ3_checkIndex_8e157_9 : decode cJ3_checkIndex_8e157 9 = .ok (.aload_n 2, 1) := by decide +kernel
theorem dJ3_checkIndex_8e157_10 : decode cJ3_checkIndex_8e157 10 = .ok (.iload_n 0, 1) := by decide +kernel
theorem dJ3_checkIndex_8e157_11 : decode cJ3_checkIndex_8e157 11 = .ok (.iload_n 1, 1) := by decide +kernel
theorem dJ3_checkIndex_8e157_12 : decode cJ3_checkIndex_8e157 12 = .ok (.invokestatic 95, 3) := by decide +kernel
theorem dJ3_checkIndex_8e157_15 : decode cJ3_checkIndex_8e157 15 = .ok (.athrow, 1) := by decide +kernel
theorem dJ3_checkIndex_8e157_16 : decode cJ3_checkIndex_8e157 16 = .ok (.iload_n 0, 1) := by decide +kernel
theorem dJ3_checkIndex_8e157_17 : decode cJ3_checkIndex_8e157 17 = .ok (.ireturn, 1) := by decide +kernel
/-! ===== the JDK's methods on the four words ===== -/
section STR
set_option maxHeartbeats 4000000 in
set_option maxRecDepth 100000 in
theorem c_J0_coder_7d493 (l : Launch) (G : Gl) (w : Nat) (M : zM) (k0 : w < 4) : Met l yJ0_coder_7d493 (wsM yJ0_coder_7d493 cJ0_coder_7d493 1 (some .byte)) (rmM 0 0) (Pre G M [.ref (G.2.2.2.2.1 w)]) (PoI G (0, M)) 0 0 (gA G) := by
  refine r_met (own := RJ0) rfl (by decide) (Nat.le_of_ble_eq_true rfl) ?_
  intro p e s m below meth c ls C hr hlk hS hl
  have hl : lv_has ls 1 [(0, .ref (G.2.2.2.2.1 w))] := hl
  obtain ⟨hx, hb, hml, hown, hts, hK, hX⟩ := id C
  refine va_gets hx hb hX.2.2.1 hS.2 hown (hts _ tw_357) (fun _ h => h) dJ0_coder_7d493_0 ?_
  refine lv_if_eq (tgt := 13) hx hb dJ0_coder_7d493_3 (by decide) (fun c1 => absurd c1 (by decide)) (fun c1 => ?_)
  refine lv_aload_n hx hb dJ0_coder_7d493_6 rfl (lv_at hl 0 rfl) ?_
  refine vk_getf hx hb (hX.2.2.2.1.1 w k0).2.1 hS.2 hown (hts _ tw_1300) (fun _ h => h) dJ0_coder_7d493_7 ?_
  refine lv_goto (tgt := 14) hx hb dJ0_coder_7d493_10 (by decide) ?_
  exact r_nret C hS hr hlk (by decide) rfl dJ0_coder_7d493_14
set_option maxHeartbeats 4000000 in
set_option maxRecDepth 100000 in
theorem c_J0_isLatin1_aae02 (l : Launch) (G : Gl) (w : Nat) (M : zM) (k0 : w < 4) : Met l yJ0_isLatin1_aae02 (wsM yJ0_isLatin1_aae02 cJ0_isLatin1_aae02 1 (some .boolean)) (rmM 0 0) (Pre G M [.ref (G.2.2.2.2.1 w)]) (PoI G (1, M)) 0 0 (gA G) := by
  refine r_met (own := RJ0) rfl (by decide) (Nat.le_of_ble_eq_true rfl) ?_
  intro p e s m below meth c ls C hr hlk hS hl
  have hl : lv_has ls 1 [(0, .ref (G.2.2.2.2.1 w))] := hl
  obtain ⟨hx, hb, hml, hown, hts, hK, hX⟩ := id C
  refine va_gets hx hb hX.2.2.1 hS.2 hown (hts _ tw_357) (fun _ h => h) dJ0_isLatin1_aae02_0 ?_
  refine lv_if_eq (tgt := 17) hx hb dJ0_isLatin1_aae02_3 (by decide) (fun c1 => absurd c1 (by decide)) (fun c1 => ?_)
  refine lv_aload_n hx hb dJ0_isLatin1_aae02_6 rfl (lv_at hl 0 rfl) ?_
  refine vk_getf hx hb (hX.2.2.2.1.1 w k0).2.1 hS.2 hown (hts _ tw_1300) (fun _ h => h) dJ0_isLatin1_aae02_7 ?_
  refine lv_if_ne (tgt := 17) hx hb dJ0_isLatin1_aae02_10 (by decide) (fun c1 => absurd rfl c1) (fun c1 => ?_)
  refine lv_iconst (v := 1) hx hb dJ0_isLatin1_aae02_13 (by decide) ?_
  refine lv_goto (tgt := 18) hx hb dJ0_isLatin1_aae02_14 (by decide) ?_
  exact r_nret C hS hr hlk (by decide) rfl dJ0_isLatin1_aae02_18
theorem zs_shr : ∀ w, w < 4 → Int32.ofNat (zSl.getD w 0) >>> ((0 : Int32) &&& 31) = Int32.ofNat (zSl.getD w 0) := by decide
set_option maxHeartbeats 4000000 in
set_option maxRecDepth 100000 in
theorem c_J0_length_8abf5 (l : Launch) (G : Gl) (F : Nat) (w : Nat) (M : zM) (k0 : w < 4) (q : Int32 × zM) (h : JStr_length F w M = some q) : Met l yJ0_length_8abf5 (wsM yJ0_length_8abf5 cJ0_length_8abf5 1 (some .int)) (rmM 1 20) (Pre G M [.ref (G.2.2.2.2.1 w)]) (PoI G q) 0 0 (gA G) := by
  refine r_met (own := RJ0) rfl (by decide) (Nat.le_of_ble_eq_true rfl) ?_
  intro p e s m below meth c ls C hr hlk hS hl
  have hl : lv_has ls 1 [(0, .ref (G.2.2.2.2.1 w))] := hl
  obtain ⟨hx, hb, hml, hown, hts, hK, hX⟩ := id C
  refine lv_aload_n hx hb dJ0_length_8abf5_0 rfl (lv_at hl 0 rfl) ?_
  refine vk_getf hx hb (hX.2.2.2.1.1 w k0).2.2.1 hS.2 hown (hts _ tw_1299) (fun _ h => h) dJ0_length_8abf5_1 ?_
  refine va_tlen hx hb (hX.2.2.2.1.1 w k0).2.2.2 hS.2 (v := Int32.ofNat (zSl.getD w 0)) rfl dJ0_length_8abf5_4 ?_
  refine lv_aload_n hx hb dJ0_length_8abf5_5 rfl (lv_at hl 0 rfl) ?_
  refine r_thenI hS (r_runK C hS hl.1 cs_J0_335 k0 (c_J0_coder_7d493 l G w M k0) ⟨by decide, by decide⟩ rfl rfl (Nat.le_of_ble_eq_true rfl) ⟨Nat.zero_le _, Nat.zero_le _⟩ dJ0_length_8abf5_6) (fun H locs hS => ?_)
  refine lv_ishr hx hb dJ0_length_8abf5_9 ?_
  refine r_nI (zs_shr w k0).symm ?_
  exact r_iret C hS hr hlk h dJ0_length_8abf5_10
set_option maxHeartbeats 4000000 in
set_option maxRecDepth 100000 in
theorem c_J3_checkIndex_8e157 (l : Launch) (G : Gl) (x0 x1 : Int32) (v : Value) (hv : v = .null ∨ ∃ t, v = .ref t) (M : zM) (h0 : ¬ x0 < 0) (h1 : x0 < x1) : Met l yJ3_checkIndex_8e157 (wsM yJ3_checkIndex_8e157 cJ3_checkIndex_8e157 3 (some .int)) (rmM 0 0) (Pre G M [.int x0, .int x1, v]) (PoI G (x0, M)) 0 0 (gA G) := by
  refine r_met (own := RJ3) rfl (by decide) (by rcases hv with rfl | ⟨t, rfl⟩ <;> exact Nat.le_of_ble_eq_true rfl) ?_
  intro p e s m below meth c ls C hr hlk hS hl
  have hl : lv_has ls 3 [(0, .int x0), (1, .int x1)] := lv_sub hl [0, 1] (by rcases hv with rfl | ⟨t, rfl⟩ <;> rfl)
  obtain ⟨hx, hb, hml, hown, hts, hK, hX⟩ := id C
  refine lv_iload_n hx hb dJ3_checkIndex_8e157_0 rfl (lv_at hl 0 rfl) ?_
  refine lv_if_lt (tgt := 9) hx hb dJ3_checkIndex_8e157_1 (by decide) (fun c1 => absurd c1 h0) (fun c1 => ?_)
  refine lv_iload_n hx hb dJ3_checkIndex_8e157_4 rfl (lv_at hl 0 rfl) ?_
  refine lv_iload_n hx hb dJ3_checkIndex_8e157_5 rfl (lv_at hl 1 rfl) ?_
  refine lv_icmp_lt (tgt := 16) hx hb dJ3_checkIndex_8e157_6 (by decide) (fun c2 => ?_) (fun c2 => absurd h1 c2)
  refine lv_iload_n hx hb dJ3_checkIndex_8e157_16 rfl (lv_at hl 0 rfl) ?_
  exact r_iret C hS hr hlk rfl dJ3_checkIndex_8e157_17
set_option maxHeartbeats 4000000 in
set_option maxRecDepth 100000 in
theorem c_J0_checkIndex_df160 (l : Launch) (G : Gl) (x0 x1 : Int32) (M : zM) (h0 : ¬ x0 < 0) (h1 : x0 < x1) : Met l yJ0_checkIndex_df160 (wsM yJ0_checkIndex_df160 cJ0_checkIndex_df160 2 none) (rmM 1 22) (Pre G M [.int x0, .int x1]) (PoV G ((), M)) 0 0 (gA G) := by
  refine r_met (own := RJ0) rfl (by decide) (Nat.le_of_ble_eq_true rfl) ?_
  intro p e s m below meth c ls C hr hlk hS hl
  have hl : lv_has ls 2 [(0, .int x0), (1, .int x1)] := hl
  obtain ⟨hx, hb, hml, hown, hts, hK, hX⟩ := id C
  refine lv_iload_n hx hb dJ0_checkIndex_df160_0 rfl (lv_at hl 0 rfl) ?_
  refine lv_iload_n hx hb dJ0_checkIndex_df160_1 rfl (lv_at hl 1 rfl) ?_
  rcases hX.2.2.2.2.2.2.1 with hZ | ⟨t, hZ⟩
  · refine va_gets hx hb hZ hS.2 hown (hts _ tw_373) (fun _ h => h) dJ0_checkIndex_df160_2 ?_
    refine r_thenI hS (r_runS (As := [.int x0, .int x1, .null]) (rest := []) C hS hl.1 cs_J0_1059 (c_J3_checkIndex_8e157 l G x0 x1 .null (Or.inl rfl) M h0 h1) ⟨by decide, by decide⟩ rfl rfl (Nat.le_of_ble_eq_true rfl) ⟨Nat.zero_le _, Nat.zero_le _⟩ dJ0_checkIndex_df160_5) (fun H locs hS => ?_)
    refine lv_pop hx hb dJ0_checkIndex_df160_8 rfl ?_
    exact r_vret C hS hr hlk rfl dJ0_checkIndex_df160_9
  · refine va_gets hx hb hZ hS.2 hown (hts _ tw_373) (fun _ h => h) dJ0_checkIndex_df160_2 ?_
    refine r_thenI hS (r_runS (As := [.int x0, .int x1, .ref t]) (rest := []) C hS hl.1 cs_J0_1059 (c_J3_checkIndex_8e157 l G x0 x1 (.ref t) (Or.inr ⟨t, rfl⟩) M h0 h1) ⟨by decide, by decide⟩ rfl rfl (Nat.le_of_ble_eq_true rfl) ⟨Nat.zero_le _, Nat.zero_le _⟩ dJ0_checkIndex_df160_5) (fun H locs hS => ?_)
    refine lv_pop hx hb dJ0_checkIndex_df160_8 rfl ?_
    exact r_vret C hS hr hlk rfl dJ0_checkIndex_df160_9
theorem zs_len : ∀ w, w < 4 → zSl.getD w 0 < 2 ^ 31 := by decide
theorem zs_chr : ∀ w, w < 4 → ∀ j, j < zSl.getD w 0 → ((((zSb.getD w []).getD j 0) &&& 255).toUInt32 % 65536).toInt32 = (zSb.getD w []).getD j 0 ∧ narrow .char (.int ((zSb.getD w []).getD j 0)) = .int ((zSb.getD w []).getD j 0) := by decide
theorem inb_nat {i : Int32} {n : Nat} (hb : inb i n = true) (hn : n < 2 ^ 31) : i.toNatClampNeg < n ∧ ¬ i < 0 ∧ i < Int32.ofNat n := by
  obtain ⟨h1, h2⟩ := of_decide_eq_true hb
  obtain ⟨j, hj, rfl⟩ := vp_in_of (inb_in hb) hn
  exact ⟨by rw [nI_clamp (by omega)]; exact hj, nI_pos (by omega), nI_lt hj (by omega)⟩
set_option maxHeartbeats 4000000 in
set_option maxRecDepth 100000 in
theorem c_J1_charAt_3b067 (l : Launch) (G : Gl) (w : Nat) (x1 : Int32) (M : zM) (k0 : w < 4) (hi : inb x1 (zSl.getD w 0) = true) : Met l yJ1_charAt_3b067 (wsM yJ1_charAt_3b067 cJ1_charAt_3b067 2 (some .char)) (rmM 2 43) (Pre G M [.ref (G.2.2.2.2.2 w), .int x1]) (PoI G ((zSb.getD w []).getD x1.toNatClampNeg 0, M)) 0 0 (gA G) := by
  have hlen : zSl.getD w 0 < 2 ^ 31 := zs_len w k0
  obtain ⟨hlt, hn0, hlt2⟩ := inb_nat hi hlen
  obtain ⟨e1, e2⟩ := zs_chr w k0 _ hlt
  refine r_met (own := RJ1) rfl (by decide) (Nat.le_of_ble_eq_true rfl) ?_
  intro p e s m below meth c ls C hr hlk hS hl
  have hl : lv_has ls 2 [(0, .ref (G.2.2.2.2.2 w)), (1, .int x1)] := hl
  obtain ⟨hx, hb, hml, hown, hts, hK, hX⟩ := id C
  refine lv_iload_n hx hb dJ1_charAt_3b067_0 rfl (lv_at hl 1 rfl) ?_
  refine lv_aload_n hx hb dJ1_charAt_3b067_1 rfl (lv_at hl 0 rfl) ?_
  refine va_tlen hx hb (hX.2.2.2.1.1 w k0).2.2.2 hS.2 (v := Int32.ofNat (zSl.getD w 0)) rfl dJ1_charAt_3b067_2 ?_
  refine r_thenV hS (r_runS (As := [.int x1, .int (Int32.ofNat (zSl.getD w 0))]) (rest := []) C hS hl.1 cs_J1_9 (c_J0_checkIndex_df160 l G x1 _ M hn0 hlt2) ⟨by decide, by decide⟩ rfl rfl (Nat.le_of_ble_eq_true rfl) ⟨Nat.zero_le _, Nat.zero_le _⟩ dJ1_charAt_3b067_3) (fun H locs hS => ?_)
  refine lv_aload_n hx hb dJ1_charAt_3b067_6 rfl (lv_at hl 0 rfl) ?_
  refine lv_iload_n hx hb dJ1_charAt_3b067_7 rfl (lv_at hl 1 rfl) ?_
  refine va_tb hx hb (hX.2.2.2.1.1 w k0).2.2.2 hS.2 (inb_in hi) rfl dJ1_charAt_3b067_8 ?_
  refine lv_sipush (v := 255) hx hb dJ1_charAt_3b067_9 (by decide) ?_
  refine lv_iand hx hb dJ1_charAt_3b067_12 ?_
  refine lv_i2c hx hb dJ1_charAt_3b067_13 e1 ?_
  exact r_nret C hS hr hlk e2 rfl dJ1_charAt_3b067_14
set_option maxHeartbeats 4000000 in
set_option maxRecDepth 100000 in
theorem c_J0_charAt_5068e (l : Launch) (G : Gl) (F : Nat) (w : Nat) (x1 : Int32) (M : zM) (k0 : w < 4) (q : Int32 × zM) (h : JStr_charAt F w x1 M = some q) : Met l yJ0_charAt_5068e (wsM yJ0_charAt_5068e cJ0_charAt_5068e 2 (some .char)) (rmM 3 64) (Pre G M [.ref (G.2.2.2.2.1 w), .int x1]) (PoI G q) 0 0 (gA G) := by
  unfold JStr_charAt at h
  obtain ⟨hi, h⟩ := ift h
  have hlen : zSl.getD w 0 < 2 ^ 31 := zs_len w k0
  obtain ⟨hlt, hn0, hlt2⟩ := inb_nat hi hlen
  obtain ⟨e1, e2⟩ := zs_chr w k0 _ hlt
  refine r_met (own := RJ0) rfl (by decide) (Nat.le_of_ble_eq_true rfl) ?_
  intro p e s m below meth c ls C hr hlk hS hl
  have hl : lv_has ls 2 [(0, .ref (G.2.2.2.2.1 w)), (1, .int x1)] := hl
  obtain ⟨hx, hb, hml, hown, hts, hK, hX⟩ := id C
  refine lv_aload_n hx hb dJ0_charAt_5068e_0 rfl (lv_at hl 0 rfl) ?_
  refine r_thenI hS (r_runK (As := []) (rest := []) C hS hl.1 cs_J0_492 k0 (c_J0_isLatin1_aae02 l G w M k0) ⟨by decide, by decide⟩ rfl rfl (Nat.le_of_ble_eq_true rfl) ⟨Nat.zero_le _, Nat.zero_le _⟩ dJ0_charAt_5068e_1) (fun H locs hS => ?_)
  refine lv_if_eq (tgt := 16) hx hb dJ0_charAt_5068e_4 (by decide) (fun c1 => absurd (show (1 : Int32) = 0 from c1) (by decide)) (fun c1 => ?_)
  refine lv_aload_n hx hb dJ0_charAt_5068e_7 rfl (lv_at hl 0 rfl) ?_
  refine vk_getf hx hb (hX.2.2.2.1.1 w k0).2.2.1 hS.2 hown (hts _ tw_1299) (fun _ h => h) dJ0_charAt_5068e_8 ?_
  refine lv_iload_n hx hb dJ0_charAt_5068e_11 rfl (lv_at hl 1 rfl) ?_
  refine r_thenI hS (r_runS (As := [.ref (G.2.2.2.2.2 w), .int x1]) (rest := []) C hS hl.1 cs_J0_495 (c_J1_charAt_3b067 l G w x1 M k0 hi) ⟨by decide, by decide⟩ rfl rfl (Nat.le_of_ble_eq_true rfl) ⟨Nat.zero_le _, Nat.zero_le _⟩ dJ0_charAt_5068e_12) (fun H locs hS => ?_)
  exact r_nret C hS hr hlk e2 h dJ0_charAt_5068e_15
end STR

/-! ===== a line grows; the draft; the text ===== -/
theorem zL_in {M : zM} {a k : Nat} {v : Int64} : (zL M a k v).2 a k = v := by rw [zL_same]; unfold vp_updL; simp
theorem zL_ne {M : zM} {a b k j : Nat} {v : Int64} (h : b ≠ a ∨ j ≠ k) : (zL M a k v).2 b j = M.2 b j := by
  by_cases hb : b = a
  · subst hb
    rw [zL_same]
    unfold vp_updL
    rw [if_neg (by omega)]
  · rw [zL_other hb]
theorem okW_app {w v : List Nat} (hw : okW w) (hv : ∀ k ∈ v, isLt k) (h : w.length + v.length ≤ 60) : okW (w ++ v) := ⟨by rw [List.length_append]; exact h, fun k hk => (List.mem_append.mp hk).elim (hw.2 k) (hv k)⟩
theorem append_no {F a : Nat} {w v : List Nat} {s : Int64} {M : zM} (h : XL a w M) (hv : v.length ≤ 12) (hl : 60 < w.length + v.length) : Lin_append F a s (nI v.length) M = some (0, M) := by
  have h60 := h.1.1
  unfold Lin_append
  rw [if_neg (show ¬ nI v.length < 1 from nI_nlt (b := 1) (by omega) (by omega)), h.2.1, nI_add, if_neg (show ¬ nI (w.length + v.length) ≤ 60 from nI_ge (b := w.length + v.length) (a := 60) hl (by omega))]
  rfl
theorem append_ok {F a : Nat} {w v : List Nat} {M : zM} (h : XL a w M) (hv : ∀ k ∈ v, isLt k) (h1 : 1 ≤ v.length) (h12 : v.length ≤ 12) (hl : w.length + v.length ≤ 60) : ∃ M', Lin_append F a (lN (pkN v 12)) (nI v.length) M = some (1, M') ∧ XL a (w ++ v) M' ∧ (∀ b, b ≠ a → M'.1 b = M.1 b) ∧ ∀ b, b ≠ a + 1 → M'.2 b = M.2 b := by
  obtain ⟨ok, hz, hp⟩ := h
  have hq : w.length / 12 ≤ 4 := by omega
  have e1 : nI w.length / 12 = nI (w.length / 12) := pk_div (a := w.length) (d := 12) (by omega) (by decide) (by decide)
  have e2 : nI w.length - nI w.length / 12 * 12 = nI (w.length % 12) := pk_rem (a := w.length) (d := 12) (by omega) (by decide) (by decide)
  have e3 : (5 : Int32) * nI (w.length % 12) = nI (5 * (w.length % 12)) := by rw [show (5 : Int32) = nI 5 from rfl, pk_mul]
  have e4 : (60 : Int32) - nI (5 * (w.length % 12)) = nI (60 - 5 * (w.length % 12)) := by rw [show (60 : Int32) = nI 60 from rfl, pk_sub (by omega)]
  obtain ⟨p1, p2, p3, p4⟩ := pk_app (q := w.length / 12) (r := w.length % 12) ok.2 hv (Nat.mod_lt _ (by decide)) (Nat.div_add_mod _ 12).symm h12
  have ok' := okW_app ok hv hl
  have hsz : nI w.length + nI v.length = nI (w ++ v).length := by rw [nI_add, List.length_append]
  unfold Lin_append lt
  rw [if_neg (show ¬ nI v.length < 1 from nI_nlt (a := v.length) (b := 1) h1 (by omega)), hz, nI_add, if_pos (show nI (w.length + v.length) ≤ 60 from nI_le (b := 60) hl (by decide))]
  dsimp only
  rw [e2, e1, e3, if_pos (inb_nI (by omega) (by decide)), nI_clamp (by omega), nI_1]
  by_cases c : w.length / 12 = 4
  · rw [if_pos (show (5 : Int32) ≤ nI (w.length / 12 + 1) from nI_le (a := 5) (by omega) (by omega))]
    unfold Lin_append_J83 lt
    refine ⟨zI (zL M (a + 1) (w.length / 12) ((M.2 (a + 1) (w.length / 12)) ||| (ur (lN (pkN v 12)) (nI (5 * (w.length % 12)))))) a 1 (M.1 a 1 + nI v.length), rfl, ⟨ok', ?_, fun i hi => ?_⟩, fun b hb => zI_other hb, fun b hb => zL_other hb⟩
    · rw [zI_in, hz, hsz]
    · show (zL M (a + 1) (w.length / 12) _).2 (a + 1) i = _
      by_cases ci : i = w.length / 12
      · subst ci
        rw [zL_in, hp _ (by omega), p2]
      · rw [zL_ne (Or.inr ci), hp i hi, p1 i (by omega)]
  · rw [if_neg (show ¬ (5 : Int32) ≤ nI (w.length / 12 + 1) from nI_ge (b := 5) (by omega) (by decide)), if_pos (inb_nI (by omega) (by decide)), nI_clamp (by omega), e4]
    unfold Lin_append_J83 lt
    rw [show (1152921504606846975 : Int64) = lN (2 ^ 60 - 1) from rfl]
    refine ⟨zI (zL (zL M (a + 1) (w.length / 12) ((M.2 (a + 1) (w.length / 12)) ||| (ur (lN (pkN v 12)) (nI (5 * (w.length % 12)))))) (a + 1) (w.length / 12 + 1) _) a 1 (M.1 a 1 + nI v.length), rfl, ⟨ok', ?_, fun i hi => ?_⟩, fun b hb => zI_other hb, fun b hb => (zL_other hb).trans (zL_other hb)⟩
    · rw [zI_in, hz, hsz]
    · show (zL (zL M (a + 1) (w.length / 12) _) (a + 1) (w.length / 12 + 1) _).2 (a + 1) i = _
      by_cases cj : i = w.length / 12 + 1
      · subst cj
        rw [zL_in, zL_ne (Or.inr (by omega)), hp _ hi, p3]
      · rw [zL_ne (Or.inr cj)]
        by_cases ci : i = w.length / 12
        · subst ci
          rw [zL_in, hp _ (by omega), p2]
        · rw [zL_ne (Or.inr ci), hp i hi]
          by_cases cl : i < w.length / 12
          · rw [p1 i cl]
          · rw [p4 i (by omega)]
theorem signOf_ok {F k : Nat} {M : zM} (h : isLt k) : Lin_signOf F (nI k) M = some (lN (pkN [k] 12), M) := by
  unfold Lin_signOf
  have e : pkN [k] 12 = sgn k * 2 ^ 55 := by
    show sgn k * 32 ^ 11 + pkN [] 11 = _
    rw [pkN_nil, p32, Nat.add_zero]
  rw [e]
  rcases h with rfl | h
  · rfl
  · rw [if_neg (fun q => by have := (nI_eq (a := k) (b := 32) (by omega) (by decide)).mp q; omega), show (95 : Int32) = nI 95 from rfl, pk_sub (by omega)]
    have e2 : sgn k = k - 95 := by unfold sgn; rw [if_neg (by omega)]
    rw [e2, nI_l (by omega)]
    show some (lN (k - 95) <<< ((nI 55).toInt64 &&& 63), M) = _
    rw [wb_shl _ (by decide)]
theorem runW_app (w v : List Nat) : runW (w ++ v) = runW w ++ runW v := by unfold runW; rw [List.filter_append]
theorem runW_len (w : List Nat) : (runW w).length ≤ w.length := by unfold runW; exact List.length_filter_le _ _
theorem runW_lt {w : List Nat} (h : ∀ k ∈ w, isLt k) : ∀ k ∈ runW w, isLt k := fun k hk => h k (List.mem_filter.mp hk).1
def spWrite (x : Int32) (S : Sp) : Int32 × Sp := if x = 32 ∨ (¬ x < 97 ∧ x ≤ 122) then (if S.2.2.2.length = 60 then (-1004, S) else (nI (S.2.2.2.length + 1), (S.1, S.2.1, S.2.2.1, S.2.2.2 ++ [x.toNatClampNeg]))) else (-1002, S)
theorem isLt_of {x : Int32} (h : x = 32 ∨ (¬ x < 97 ∧ x ≤ 122)) : ∃ k, isLt k ∧ k < 2 ^ 31 ∧ x = nI k := by
  rcases h with rfl | ⟨h1, h2⟩
  · exact ⟨32, Or.inl rfl, by decide, rfl⟩
  · have h0 : ¬ x < 0 := fun q => h1 (by
      rw [Int32.lt_iff_toInt_lt] at q ⊢
      have e0 : (0 : Int32).toInt = 0 := by decide
      have e1 : (97 : Int32).toInt = 97 := by decide
      omega)
    obtain ⟨k, hk, rfl⟩ := nI_of2 (x := x) (M := 122) (n := 122) (by decide) h0 h2
    refine ⟨k, Or.inr ⟨?_, hk⟩, by omega, rfl⟩
    have : ¬ k < 97 := fun q => h1 (nI_lt (b := 97) q (by decide))
    omega
theorem write_J22 {F k : Nat} {S : Sp} {M : zM} (h : RX S M) (hk : isLt k) : ∃ M1, NW_write_J22 F (nI k) M = some ((if S.2.2.2.length = 60 then -1004 else nI (S.2.2.2.length + 1)), M1) ∧ RX (if S.2.2.2.length = 60 then S else (S.1, S.2.1, S.2.2.1, S.2.2.2 ++ [k])) M1 ∧ sameHi M M1 := by
  obtain ⟨h1, h2, h3, h4, h5, h6, h7, h8⟩ := h
  have h60 := h7.1.1
  have hk31 : k < 2 ^ 31 := by rcases hk with q | q <;> omega
  have hkL : ∀ x ∈ [k], isLt x := fun x hx => by rw [List.mem_singleton.mp hx]; exact hk
  unfold NW_write_J22
  rw [signOf_ok hk, Option.bind_some]
  dsimp only
  by_cases c : S.2.2.2.length = 60
  · rw [show (1 : Int32) = nI [k].length from rfl, append_no h7 (v := [k]) (by simp) (by rw [c]; simp), Option.bind_some, if_pos c, if_pos c]
    exact ⟨M, rfl, ⟨h1, h2, h3, h4, h5, h6, h7, h8⟩, sameHi.rf⟩
  · rw [if_neg c, if_neg c]
    obtain ⟨M1, e1, x1, o1, o2⟩ := append_ok (F := F) h7 hkL (by simp) (by simp) (by show _ + 1 ≤ 60; omega)
    rw [show (1 : Int32) = nI [k].length from rfl, e1, Option.bind_some]
    dsimp only
    rw [if_neg (by decide)]
    have base : ∀ M2 : zM, (∀ b, b ≠ 53 → b ≠ 55 → M2.1 b = M.1 b) → (∀ b, b ≠ 54 → b ≠ 56 → M2.2 b = M.2 b) → XL 53 (S.2.2.2 ++ [k]) M2 → XL 55 (runW (S.2.2.2 ++ [k])) M2 → RX (S.1, S.2.1, S.2.2.1, S.2.2.2 ++ [k]) M2 ∧ sameHi M M2 := fun M2 a1 a2 a3 a4 =>
      ⟨⟨h1, h2, by rw [a1 1 (by decide) (by decide)]; exact h3, by rw [a1 2 (by decide) (by decide)]; exact h4, by rw [a1 12 (by decide) (by decide)]; exact h5, fun t ht => (h6 t ht).same (fun b b1 b2 => ⟨a1 b (by omega) (by omega), a2 b (by omega) (by omega)⟩), a3, a4⟩, fun b hb => ⟨a1 b (by omega) (by omega), a2 b (by omega) (by omega)⟩⟩
    have hsz : ∀ M2 : zM, XL 53 (S.2.2.2 ++ [k]) M2 → NW_write_J60 F M2 = some (nI (S.2.2.2.length + 1), M2) := fun M2 a => by
      show some (M2.1 53 1, M2) = _
      rw [a.2.1, List.length_append]; rfl
    by_cases c32 : nI k = 32
    · rw [if_pos c32, hsz M1 x1]
      have k32 : k = 32 := (nI_eq hk31 (by decide : 32 < 2 ^ 31)).mp c32
      refine ⟨M1, rfl, base M1 (fun b b1 b2 => o1 b b1) (fun b b1 b2 => o2 b b1) x1 ?_⟩
      rw [runW_app, k32]
      show XL 55 (runW S.2.2.2 ++ []) M1
      rw [List.append_nil]
      exact h8.same (o1 55 (by decide)) (o2 56 (by decide))
    · rw [if_neg c32, signOf_ok hk, Option.bind_some]
      dsimp only
      have k32 : k ≠ 32 := fun q => c32 (by rw [q]; rfl)
      have h8' := h8.same (o1 55 (by decide)) (o2 56 (by decide))
      have hrl := runW_len S.2.2.2
      obtain ⟨M2, e2, x2, o3, o4⟩ := append_ok (F := F) h8' hkL (by simp) (by simp) (by show _ + 1 ≤ 60; omega)
      rw [e2, Option.bind_some]
      dsimp only
      have x1' := x1.same (o3 53 (by decide)) (o4 54 (by decide))
      rw [hsz M2 x1']
      refine ⟨M2, rfl, base M2 (fun b b1 b2 => (o3 b b2).trans (o1 b b1)) (fun b b1 b2 => (o4 b b2).trans (o2 b b1)) x1' ?_⟩
      rw [runW_app]
      have : runW [k] = [k] := by unfold runW; simp [k32]
      rw [this]
      exact x2
theorem mwrite_J24 {F k : Nat} {S : Sp} {M : zM} (h0 : okS S) (h : RM S M) (hk : k < 2 ^ 31) : ∃ M2, Mod_write_J24 F (nI k) M = some ((if S.2.2.2.length = 60 then -1004 else nI (S.2.2.2.length + 1)), M2) ∧ RM (if S.2.2.2.length = 60 then S else (S.1, S.2.1, S.2.2.1, S.2.2.2 ++ [k])) M2 ∧ sameLo M M2 := by
  obtain ⟨h1, h2, h3, h4, h5, h6, h7⟩ := id h
  have h60 := h0.2.2.2.1
  unfold Mod_write_J24 lt
  rw [h5]
  by_cases c : S.2.2.2.length = 60
  · rw [if_pos (by rw [c]; rfl), if_pos c, if_pos c]
    exact ⟨M, rfl, h, sameLo.rf⟩
  · rw [if_neg (show ¬ nI S.2.2.2.length = 60 from fun q => c ((nI_eq (b := 60) (by omega) (by decide)).mp q)), if_pos (inb_nI (by omega) (by decide)), if_neg c, if_neg c, nI_clamp (by omega)]
    refine ⟨zI (zI M 95 S.2.2.2.length (nI k)) 63 42 ((zI M 95 S.2.2.2.length (nI k)).1 63 42 + 1), ?_, ⟨?_, ?_, ?_, fun t ht => ⟨(h4 t ht).1, fun n hn => ((h4 t ht).2 n hn).same (fun b b1 b2 => ⟨(zI_other (by omega)).trans (zI_other (by omega)), rfl⟩)⟩, ?_, fun i hi => ?_, ?_, h7.2.same ((zI_other (by decide)).trans (zI_other (by decide)))⟩, (sameLo.rf.zI (by decide)).zI (by decide)⟩
    · dsimp only
      rw [zI_in, zI_ne (Or.inl (by decide)), h5, nI_1]
    · rw [zI_ne (Or.inr (by decide)), zI_ne (Or.inl (by decide))]; exact h1
    · rw [zI_other (by decide), zI_other (by decide)]; exact h2
    · rw [zI_ne (Or.inr (by decide)), zI_ne (Or.inl (by decide))]; exact h3
    · rw [zI_in, zI_ne (Or.inl (by decide)), h5, nI_1]
      show _ = nI (S.2.2.2 ++ [k]).length
      rw [List.length_append]; rfl
    · have hi' : i < S.2.2.2.length + 1 := by have : i < (S.2.2.2 ++ [k]).length := hi; rw [List.length_append] at this; exact this
      rw [zI_other (by decide)]
      show _ = nI ((S.2.2.2 ++ [k]).getD i 0)
      by_cases ci : i = S.2.2.2.length
      · subst ci
        rw [zI_in, List.getD_eq_getElem?_getD, List.getElem?_append_right (Nat.le_refl _)]
        simp
      · rw [zI_ne (Or.inr ci), h6 i (by omega), List.getD_eq_getElem?_getD, List.getD_eq_getElem?_getD, List.getElem?_append_left (by omega)]
    · rw [zI_ne (Or.inr (by decide)), zI_ne (Or.inl (by decide)), zI_ne (Or.inr (by decide)), zI_ne (Or.inl (by decide)), zI_ne (Or.inr (by decide)), zI_ne (Or.inl (by decide)), zI_other (by decide), zI_other (by decide)]
      exact h7.1
theorem in_lt {x : Int32} : decide ((97 : Int64) ≤ x.toInt64 ∧ x.toInt64 ≤ 122) = decide (¬ x < 97 ∧ x ≤ 122) := by
  rw [decide_eq_decide, Int64.le_iff_toInt_le, Int64.le_iff_toInt_le, Int32.lt_iff_toInt_lt, Int32.le_iff_toInt_le]
  have e : x.toInt64.toInt = x.toInt := by simp
  have e1 : (97 : Int64).toInt = 97 := by decide
  have e2 : (122 : Int64).toInt = 122 := by decide
  have e3 : (97 : Int32).toInt = 97 := by decide
  have e4 : (122 : Int32).toInt = 122 := by decide
  rw [e, e1, e2, e3, e4]
  omega
theorem ok_write {F : Nat} (x : Int32) : Good (NW_write F x) (Mod_write F x) := by
  by_cases c : x = 32 ∨ (¬ x < 97 ∧ x ≤ 122)
  · obtain ⟨k, hk, hk31, rfl⟩ := isLt_of c
    refine mkGood (fun S => ((if S.2.2.2.length = 60 then -1004 else nI (S.2.2.2.length + 1)), (if S.2.2.2.length = 60 then S else (S.1, S.2.1, S.2.2.1, S.2.2.2 ++ [k])))) (fun S M h => ?_) (fun S M h0 h => ?_)
    · have key := write_J22 (F := F) h hk
      unfold NW_write
      by_cases c1 : nI k = 32
      · rw [if_pos c1]; exact key
      · have c2 : ¬ nI k < 97 ∧ nI k ≤ 122 := c.resolve_left c1
        rw [if_neg c1, if_neg c2.1, if_pos c2.2]; exact key
    · have key := mwrite_J24 (F := F) h0 h hk31
      unfold Mod_write
      by_cases c1 : nI k = 32
      · rw [if_pos c1]; exact key
      · have c2 : ¬ nI k < 97 ∧ nI k ≤ 122 := c.resolve_left c1
        rw [if_neg c1, Mod_in_ok, in_lt, decide_eq_true c2, Option.bind_some]
        exact key
  · have c1 : ¬ x = 32 := fun q => c (Or.inl q)
    have c2 : ¬ (¬ x < 97 ∧ x ≤ 122) := fun q => c (Or.inr q)
    refine mkGood0 (fun _ => -1002) (fun S M h => ?_) (fun S M h0 h => ?_)
    · unfold NW_write
      rw [if_neg c1]
      by_cases c3 : x < 97
      · rw [if_pos c3]
      · rw [if_neg c3, if_neg (fun q => c2 ⟨c3, q⟩)]
    · unfold Mod_write
      rw [if_neg c1, Mod_in_ok, in_lt, decide_eq_false c2, Option.bind_some]
      rfl

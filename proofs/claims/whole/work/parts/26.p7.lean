/-! ===== feed ===== -/
theorem byte_low (x : Int32) : (x &&& 255).toInt8 = x.toInt8 := by
  apply Int8.toBitVec_inj.mp
  apply BitVec.eq_of_getLsbD_eq
  intro i hi
  have e1 : ∀ y : Int32, y.toInt8.toBitVec.getLsbD i = y.toBitVec.getLsbD i := fun y => by
    show (y.toBitVec.signExtend 8).getLsbD i = _
    rw [BitVec.getLsbD_signExtend]
    simp [hi, show i < 32 by omega]
  rw [e1, e1, Int32.toBitVec_and, BitVec.getLsbD_and]
  have : ∀ j, j < 8 → (255 : Int32).toBitVec.getLsbD j = true := by decide
  rw [this i hi, Bool.and_true]
/-- the byte k of a long, the lowest first -/
def byL (x : Int64) (k : Nat) : Nat := ((sr x (nI (8 * k))) &&& 255).toInt32.toNatClampNeg
theorem byL_ok (x : Int64) (k : Nat) : byL x k < 256 ∧ ((sr x (nI (8 * k))) &&& 255).toInt32 = nI (byL x k) ∧ (sr x (nI (8 * k))).toInt32.toInt8.toInt32 = (nI (byL x k)).toInt8.toInt32 := by
  obtain ⟨m, hm, e⟩ := wb_of (sr x (nI (8 * k)))
  have e1 : (sr x (nI (8 * k)) &&& 255).toInt32 = nI (m % 256) := by
    rw [e, show (255 : Int64) = lN (2 ^ 8 - 1) from rfl, wb_mask hm (by decide), lN_i]
  have hb : byL x k = m % 256 := by
    unfold byL
    rw [e1, nI_clamp (by omega)]
  refine ⟨by omega, by rw [hb]; exact e1, ?_⟩
  rw [hb, e, lN_i, ← byte_low (nI m)]
  congr 2
  rw [show (255 : Int32) = nI 255 from rfl, nx_and]
  congr 1
  exact Nat.and_two_pow_sub_one_eq_mod m 8
theorem i8_idem (x : Int32) : x.toInt8.toInt32.toInt8 = x.toInt8 := by simp
theorem texApp {F k : Nat} {x : Int32} {S : Sp} {M : zM} (h : RX S M) (hk : k < 256) (hx : x.toInt8.toInt32 = (nI k).toInt8.toInt32) (hl : S.1.length < 240) : ∃ M1, Tex_append F x M = some ((), M1) ∧ RX (S.1 ++ [k], S.2) M1 ∧ sameHi M M1 := by
  obtain ⟨h1, h2, h3, h4, h5, h6, h7, h8⟩ := h
  unfold Tex_append
  dsimp only [lt]
  rw [h3, if_neg (show ¬ (240 : Int32) ≤ nI S.1.length from nI_ge (b := 240) hl (by decide)), if_pos (inb_nI hl (by decide)), nI_clamp (by omega)]
  refine ⟨zI (zI M 1 1 (nI S.1.length + 1)) 2 S.1.length x.toInt8.toInt32, rfl, ⟨?_, ?_, ?_, fun i hi => ?_, ?_, fun t ht => (h6 t ht).same (fun b b1 b2 => ⟨(zI_other (by omega)).trans (zI_other (by omega)), rfl⟩), ?_, ?_⟩, (sameHi.rf.zI (by decide)).zI (by decide)⟩
  · show (S.1 ++ [k]).length ≤ 240
    rw [List.length_append]; show S.1.length + 1 ≤ 240; omega
  · intro z hz
    rcases List.mem_append.mp hz with q | q
    · exact h2 z q
    · rw [List.mem_singleton.mp q]; exact hk
  · rw [zI_ne (Or.inl (by decide)), zI_in, nI_1]
    show _ = nI (S.1 ++ [k]).length
    rw [List.length_append]; rfl
  · show _ = (nI ((S.1 ++ [k]).getD i 0)).toInt8.toInt32
    have hi' : i < S.1.length + 1 := by have : i < (S.1 ++ [k]).length := hi; rw [List.length_append] at this; exact this
    by_cases ci : i = S.1.length
    · subst ci
      rw [zI_in, List.getD_eq_getElem?_getD, List.getElem?_append_right (Nat.le_refl _), hx]
      simp
    · rw [zI_ne (Or.inr ci), zI_other (by decide), h4 i (by omega), List.getD_eq_getElem?_getD, List.getD_eq_getElem?_getD, List.getElem?_append_left (by omega)]
  · rw [zI_other (by decide), zI_other (by decide)]; exact h5
  · exact h7.same ((zI_other (by decide)).trans (zI_other (by decide))) rfl
  · exact h8.same ((zI_other (by decide)).trans (zI_other (by decide))) rfl
theorem mtexApp {k : Nat} {S : Sp} {M : zM} (h : RM S M) (hl : S.1.length < 240) : RM (S.1 ++ [k], S.2) (zI (zI M 79 S.1.length (nI k)) 63 16 (nI (S.1.length + 1))) := by
  obtain ⟨h1, h2, h3, h4, h5, h6, h7⟩ := h
  refine ⟨?_, fun i hi => ?_, ?_, fun t ht => ⟨by rw [zI_other (by decide), zI_other (by decide)]; exact (h4 t ht).1, fun n hn => ((h4 t ht).2 n hn).same (fun b b1 b2 => ⟨(zI_other (by omega)).trans (zI_other (by omega)), rfl⟩)⟩, ?_, ?_, ?_, h7.2.same ((zI_other (by decide)).trans (zI_other (by decide)))⟩
  · rw [zI_in]
    show _ = nI (S.1 ++ [k]).length
    rw [List.length_append]; rfl
  · show _ = nI ((S.1 ++ [k]).getD i 0)
    have hi' : i < S.1.length + 1 := by have : i < (S.1 ++ [k]).length := hi; rw [List.length_append] at this; exact this
    rw [zI_other (by decide)]
    by_cases ci : i = S.1.length
    · subst ci
      rw [zI_in, List.getD_eq_getElem?_getD, List.getElem?_append_right (Nat.le_refl _)]
      simp
    · rw [zI_ne (Or.inr ci), h2 i (by omega), List.getD_eq_getElem?_getD, List.getD_eq_getElem?_getD, List.getElem?_append_left (by omega)]
  · rw [zI_ne (Or.inr (by decide)), zI_ne (Or.inl (by decide))]; exact h3
  · rw [zI_ne (Or.inr (by decide)), zI_ne (Or.inl (by decide))]; exact h5
  · rw [zI_other (by decide), zI_other (by decide)]; exact h6
  · rw [zI_ne (Or.inr (by decide)), zI_ne (Or.inl (by decide)), zI_ne (Or.inr (by decide)), zI_ne (Or.inl (by decide)), zI_ne (Or.inr (by decide)), zI_ne (Or.inl (by decide)), zI_other (by decide), zI_other (by decide)]
    exact h7.1
/-- the first j of the n bytes that come behind the text -/
def fedW (x : Int64) (n : Nat) : Nat → List Nat
  | 0 => []
  | j + 1 => fedW x n j ++ [byL x (n - 1 - j)]
theorem fedW_len (x : Int64) (n j : Nat) : (fedW x n j).length = j := by
  induction j with
  | zero => rfl
  | succ j ih => unfold fedW; rw [List.length_append, ih]; rfl
def fedS (x : Int64) (n j : Nat) (S : Sp) : Sp := (S.1 ++ fedW x n j, S.2)
theorem fedS_s (x : Int64) (n j : Nat) (S : Sp) : fedS x n (j + 1) S = ((fedS x n j S).1 ++ [byL x (n - 1 - j)], (fedS x n j S).2) := by
  unfold fedS
  show (S.1 ++ (fedW x n j ++ _), S.2) = _
  rw [← List.append_assoc]
theorem fedS_0 (x : Int64) (n : Nat) (S : Sp) : fedS x n 0 S = S := by unfold fedS fedW; rw [List.append_nil]
theorem idx_dn {n j : Nat} (hj : j < n) : nI (n - j) - 1 = nI (n - 1 - j) := by
  obtain ⟨d, hd⟩ : ∃ d, n - j = d + 1 := ⟨n - j - 1, by omega⟩
  rw [hd, nI_pred]; congr 1; omega
theorem ok_feed {F : Nat} (hF : 3000 < F) (x : Int32) (y : Int64) : Good (NW_feed F x y) (Mod_feed F x y) := by
  by_cases c : ¬ x < 1 ∧ x ≤ 8
  · obtain ⟨n, hn1, hn8, rfl⟩ : ∃ n : Nat, 1 ≤ n ∧ n ≤ 8 ∧ x = nI n := by
      have h0 : ¬ x < 0 := fun q => c.1 (by
        rw [Int32.lt_iff_toInt_lt] at q ⊢
        have e0 : (0 : Int32).toInt = 0 := by decide
        have e1 : (1 : Int32).toInt = 1 := by decide
        omega)
      obtain ⟨k, hk, rfl⟩ := nI_of2 (x := x) (M := 8) (n := 8) (by decide) h0 c.2
      refine ⟨k, ?_, hk, rfl⟩
      have : ¬ k < 1 := fun q => c.1 (nI_lt (b := 1) q (by decide))
      omega
    have e81 : ∀ j : Nat, (8 : Int32) * nI j = nI (8 * j) := fun j => by rw [show (8 : Int32) = nI 8 from rfl, pk_mul]
    have em1 : ∀ z : Int32, z + (-1) = z - 1 := fun z => by rw [Int32.sub_eq_add_neg]
    refine mkGood (fun S => if S.1.length + n ≤ 240 then (nI (S.1.length + n), fedS y n n S) else (-1004, S)) (fun S M h => ?_) (fun S M h0 h => ?_)
    · have hl := h.1
      have e3 := h.2.2.1
      unfold NW_feed
      rw [if_neg c.1, if_pos c.2]
      unfold Tex_hasRoomFor
      rw [e3, nI_add]
      by_cases cr : S.1.length + n ≤ 240
      · rw [if_neg (show ¬ (240 : Int32) < nI (S.1.length + n) from nI_nlt (a := 240) cr (by decide)), if_pos cr]
        dsimp only
        rw [if_pos (by decide), Option.bind_some]
        dsimp only [lt]
        rw [if_neg (by decide)]
        obtain ⟨q, e1, M1, rfl, hR, hH⟩ := loopN_inv (body := NW_feed_B35 F y) (I := fun j s => s.1 = nI (n - j) - 1 ∧ RX (fedS y n j S) s.2 ∧ sameHi M s.2) (Qx := fun q => ∃ M1, q = (1, 0, M1) ∧ RX (fedS y n n S) M1 ∧ sameHi M M1) (N := n) (F := F) (s := (nI n - 1, M)) (fun j s hj hs => by
          obtain ⟨z, M0⟩ := s
          obtain ⟨e, r, hh⟩ := hs
          dsimp only at e r hh
          subst e
          have b := byL_ok y (n - 1 - j)
          obtain ⟨M1, e1, r1, s1⟩ := texApp (F := F) (x := (sr y (nI (8 * (n - 1 - j)))).toInt32.toInt8.toInt32) r b.1 (by rw [i8_idem]; exact b.2.2) (by show (S.1 ++ fedW y n j).length < 240; rw [List.length_append, fedW_len]; omega)
          refine Or.inl ⟨(nI (n - (j + 1)) - 1, M1), ?_, rfl, by rw [fedS_s]; exact r1, hh.tr s1⟩
          unfold NW_feed_B35
          dsimp only [lt]
          rw [idx_dn hj, if_neg (nI_pos (by omega)), e81, e1, Option.bind_some]
          dsimp only
          rw [em1, show n - (j + 1) = n - 1 - j by omega]) (fun s hs => by
          obtain ⟨z, M0⟩ := s
          obtain ⟨e, r, hh⟩ := hs
          dsimp only at e r hh
          subst e
          refine ⟨(1, 0, M0), ?_, (fun q => by cases q), M0, rfl, r, hh⟩
          unfold NW_feed_B35
          dsimp only
          rw [Nat.sub_self]
          exact if_pos (by decide)) (by omega) ⟨rfl, by rw [fedS_0]; exact h, sameHi.rf⟩
        rw [e1, Option.bind_some]
        refine ⟨M1, ?_, hR, hH⟩
        dsimp only
        rw [if_pos rfl]
        show some (M1.1 1 1, M1) = _
        rw [hR.2.2.1]
        show some (nI (S.1 ++ fedW y n n).length, M1) = _
        rw [List.length_append, fedW_len]
      · rw [if_pos (show (240 : Int32) < nI (S.1.length + n) from nI_lt (a := 240) (by omega) (by omega)), if_neg cr]
        exact ⟨M, rfl, h, sameHi.rf⟩
    · have hl := h0.1
      have e3 := h.1
      unfold Mod_feed
      have ei : decide ((1 : Int64) ≤ (nI n).toInt64 ∧ (nI n).toInt64 ≤ 8) = true := by
        have : ∀ k, k < 9 → 1 ≤ k → decide ((1 : Int64) ≤ (nI k).toInt64 ∧ (nI k).toInt64 ≤ 8) = true := by decide
        exact this n (by omega) hn1
      rw [Mod_in_ok, ei, Option.bind_some]
      dsimp only [lt]
      rw [if_neg (by decide), e3, nI_add]
      by_cases cr : S.1.length + n ≤ 240
      · rw [if_pos (show nI (S.1.length + n) ≤ 240 from nI_le (b := 240) cr (by decide)), if_pos cr]
        obtain ⟨q, e1, M1, rfl, hR, hH⟩ := loopN_inv (body := Mod_feed_B37 F y) (I := fun j s => s.1 = nI (n - j) - 1 ∧ RM (fedS y n j S) s.2 ∧ sameLo M s.2) (Qx := fun q => ∃ M1, q = (1, 0, M1) ∧ RM (fedS y n n S) M1 ∧ sameLo M M1) (N := n) (F := F) (s := (nI n - 1, M)) (fun j s hj hs => by
          obtain ⟨z, M0⟩ := s
          obtain ⟨e, r, hh⟩ := hs
          dsimp only at e r hh
          subst e
          have b := byL_ok y (n - 1 - j)
          have hlen : (fedS y n j S).1.length < 240 := by show (S.1 ++ fedW y n j).length < 240; rw [List.length_append, fedW_len]; omega
          have r1 := mtexApp (k := byL y (n - 1 - j)) r hlen
          refine Or.inl ⟨(nI (n - (j + 1)) - 1, _), ?_, rfl, by rw [fedS_s]; exact r1, (hh.zI (by decide)).zI (by decide)⟩
          unfold Mod_feed_B37
          dsimp only [lt]
          rw [idx_dn hj, if_neg (nI_pos (by omega)), e81, r.1, if_pos (inb_nI hlen (by decide)), nI_clamp (by omega), b.2.1, zI_ne (Or.inl (by decide)), r.1, nI_1, em1, show n - (j + 1) = n - 1 - j by omega]
          rfl) (fun s hs => by
          obtain ⟨z, M0⟩ := s
          obtain ⟨e, r, hh⟩ := hs
          dsimp only at e r hh
          subst e
          refine ⟨(1, 0, M0), ?_, (fun q => by cases q), M0, rfl, r, hh⟩
          unfold Mod_feed_B37
          dsimp only
          rw [Nat.sub_self]
          exact if_pos (by decide)) (by omega) ⟨rfl, by rw [fedS_0]; exact h, sameLo.rf⟩
        rw [e1, Option.bind_some]
        refine ⟨M1, ?_, hR, hH⟩
        dsimp only
        rw [if_pos rfl, hR.1]
        show some (nI (S.1 ++ fedW y n n).length, M1) = _
        rw [List.length_append, fedW_len]
      · rw [if_neg (show ¬ nI (S.1.length + n) ≤ 240 from nI_ge (a := 240) (by omega) (by omega)), if_neg cr]
        exact ⟨M, rfl, h, sameLo.rf⟩
  · refine mkGood0 (fun _ => -1002) (fun S M h => ?_) (fun S M h0 h => ?_)
    · unfold NW_feed
      by_cases c1 : x < 1
      · rw [if_pos c1]
      · rw [if_neg c1, if_neg (fun q => c ⟨c1, q⟩)]
    · unfold Mod_feed
      have : decide ((1 : Int64) ≤ x.toInt64 ∧ x.toInt64 ≤ 8) = false := by
        refine decide_eq_false (fun q => c ⟨fun c1 => ?_, ?_⟩)
        · have := q.1
          rw [Int64.le_iff_toInt_le] at this
          rw [Int32.lt_iff_toInt_lt] at c1
          have e : x.toInt64.toInt = x.toInt := by simp
          have e1 : (1 : Int64).toInt = 1 := by decide
          have e2 : (1 : Int32).toInt = 1 := by decide
          omega
        · have := q.2
          rw [Int64.le_iff_toInt_le] at this
          rw [Int32.le_iff_toInt_le]
          have e : x.toInt64.toInt = x.toInt := by simp
          have e1 : (8 : Int64).toInt = 8 := by decide
          have e2 : (8 : Int32).toInt = 8 := by decide
          omega
      rw [Mod_in_ok, this, Option.bind_some]
      rfl

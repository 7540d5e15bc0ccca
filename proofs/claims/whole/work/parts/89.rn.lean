/-! the law -/
theorem law_all {F : Nat} (hF : 3000 < F) (b L : Nat) (xs : Nat → Int32) (hL : L ≤ 2560) : ∃ M' : zM, loopN (Law_law_B18 F b L xs) F (0, xM3) = some (26, 0, M') :=
  law_fin hF hL inv0 (ok_feed hF) (ok_read hF) ok_fault (ok_about hF) ok_name ok_letters ok_by ok_deep (ok_uses hF) (ok_first hF) (ok_song hF) (ok_order hF) (ok_place hF) (ok_twins hF) ok_write (ok_clear hF) (ok_find hF) (ok_nearest hF) (ok_led hF) (ok_chain hF) (ok_honest hF) (ok_far hF) (ok_mixed hF) (ok_square hF) (ok_squares hF)
theorem law_ok : ∃ F : Nat, 3000 < F ∧ ∀ (b L : Nat) (xs : Nat → Int32), L ≤ 2560 → ∃ M' : zM, loopN (Law_law_B18 F b L xs) F (0, xM3) = some (26, 0, M') :=
  have h : 3000 < 3001 := by decide
  ⟨3001, h, fun b L xs hL => law_all h b L xs hL⟩

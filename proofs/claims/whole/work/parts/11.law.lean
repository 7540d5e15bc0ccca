def R_law : String := "NumberWordsLaw"
def lw_P (b : Addr) (xs : List Int32) (args : Array Value) (s : State) : Prop := args = #[.ref b] ∧ s.IntsAt b xs ∧ xs.length ≤ 2560 ∧ (Jvm.Cond.and given_1 narrow_1).before args s = true
def lw_Q (_ : Array Value) (s : State) (o : Outcome) (t : State) : Prop := o = .returned (some (.int 1)) ∧ Framed s o t [] 600000 7302250
def lw_Z (below : List Frame) (a : Array Value) (s : State) : State → Prop := fun t => ∃ o, t.status = .running ∧ Ended t below o ∧ lw_Q a s o t
/-- the law's own end, with 1 on the stack, nothing written that was there before, its room as the claim has it -/
theorem lw_ret {p : Program} {l : Launch} {e : Env} {s : State} {m : MethodId} {below : List Frame} {meth : Method} {c : Code} {b : Nat} (hx : p.tables.exec = Jvm.exec) (hb : c.code = code) (hr : meth.sig.returnType = ret) (hlocks : meth.locks = false) {pc : Nat} {H : Heap} {ls : Array Slot} (hdg : decode code pc = .ok (.ireturn, 1)) : W p l e room_1 s m #[Value.ref b] below meth c H [] 600000 7302250 (lw_Z below #[Value.ref b] s) (F0 m pc ls [.int 1]) := by
  intro T hT X
  obtain ⟨fs, hret, hrun, hended, hW, hframe⟩ := X.leave (v := some (.int 1)) (hlocks := hlocks) (fun h => by rw [hr] at h; cases h)
  have hmeth' : T.vm.method? m = some meth := X.method'
  refine ⟨T.setFrames fs, ?_, .returned (some (.int 1)), hrun, hended, rfl, ⟨_, rfl⟩, hW, hframe⟩
  jvm_step X.here [X.here.top, hx, hb, hdg, hmeth', hr, ret, narrow_b1]
  (try refine ⟨rfl, ?_⟩); (try refine ⟨rfl, ?_⟩)
  first | (intro acts; rw [hret _ acts rfl rfl rfl]) | rw [hret _ _ rfl rfl rfl]
  exact Steps.refl _
/-- what holds at the law's entry: the machine, the code, the tables' words (any of lw_tbl by 'hts w (by decide +kernel)'), the script of L ints xs at the cell b, what the Statement gives of the start (any of its parts by flat_of_before) -/
def lw_At (p : Program) (s : State) (m : MethodId) (meth : Method) (c : Code) (b L : Nat) (xs : Nat → Int32) : Prop :=
  p.tables.exec = Jvm.exec ∧ c.code = code ∧ meth.sig.returnType = ret ∧ c.maxLocals = 4 ∧ s.vm.findClass R_law = some m.cls ∧ (∀ w ∈ lw_tbl, w.before #[Value.ref b] s = true) ∧ va_X b L xs s s.heap ∧ b < s.heap.size ∧ meth.locks = false ∧ (Jvm.Cond.and given_1 narrow_1).before #[Value.ref b] s = true

abbrev lwN : Cond := Jvm.Cond.and given_1 narrow_1
theorem ln_arr : Cond.arrayOf (.static "NumberWords$Square" "LINES" "[I") .int ∈ flatC lwN := by decide +kernel
theorem ln_len : Cond.eq (.length (.static "NumberWords$Square" "LINES" "[I")) (.int (Int32.ofNat 24)) ∈ flatC lwN := by decide +kernel
theorem ln_el : ∀ j, j < 24 → Cond.eq (.elem (.static "NumberWords$Square" "LINES" "[I") (.int (Int32.ofNat j))) (.int (zLines.getD j 0)) ∈ flatC lwN := by decide +kernel
theorem ln_cs : Cond.eq (.static "java/lang/String" "COMPACT_STRINGS" "Z") (.int 1) ∈ flatC lwN := by decide +kernel
theorem ln_pf : Cond.isRef (.static "jdk/internal/util/Preconditions" "SIOOBE_FORMATTER" "Ljava/util/function/BiFunction;") ∈ flatC lwN := by decide +kernel
def zTm (i : Nat) : Term := .string "NumberWords$Grammar" (zSi.getD i 0)
theorem ls_ex : ∀ i, i < 4 → Cond.exactly (zTm i) "java/lang/String" ∈ flatC lwN := by decide +kernel
theorem ls_co : ∀ i, i < 4 → Cond.eq (.field (zTm i) "java/lang/String" "coder" "B") (.int 0) ∈ flatC lwN := by decide +kernel
theorem ls_ar : ∀ i, i < 4 → Cond.arrayOf (.field (zTm i) "java/lang/String" "value" "[B") .byte ∈ flatC lwN := by decide +kernel
theorem ls_le : ∀ i, i < 4 → Cond.eq (.length (.field (zTm i) "java/lang/String" "value" "[B")) (.int (Int32.ofNat (zSl.getD i 0))) ∈ flatC lwN := by decide +kernel
theorem ls_el : ∀ i, i < 4 → ∀ j, j < zSl.getD i 0 → Cond.eq (.elem (.field (zTm i) "java/lang/String" "value" "[B") (.int (Int32.ofNat j))) (.int ((zSb.getD i []).getD j 0)) ∈ flatC lwN := by decide +kernel
theorem ls_ne : ∀ i, i < 4 → ∀ j, j < 4 → i ≠ j → Cond.not (Cond.eq (zTm i) (zTm j)) ∈ flatC lwN ∨ Cond.not (Cond.eq (zTm j) (zTm i)) ∈ flatC lwN := by decide +kernel
theorem lt_sr : ∀ i, i < 4 → Cond.stringRef RX2 (zSi.getD i 0) (zSt.getD i "") ∈ lw_tbl := by decide +kernel
theorem lt_ne : ∀ w ∈ zNest, w ∈ lw_tbl := by decide +kernel
theorem lt_on : ∀ w ∈ zNest, w.onTables = true := by decide +kernel
theorem lt_i {w : Cond} (i : Nat) (h : tables_1[i]? = some w) : w ∈ lw_tbl := List.mem_append_right _ (List.mem_of_getElem? h)
/-- what the law's start gives: the classes' numbers, the rows' classes, the four words, the square's lines -/
theorem law_env {s : State} {b : Nat} (hts : ∀ w ∈ lw_tbl, w.before #[Value.ref b] s = true) (hgv : lwN.before #[Value.ref b] s = true) : ∃ G : Gl, G.1 = s.heap.size ∧ va_K G.2.1 vwCl (tyL G.2.2.1) s ∧ XX G s s.heap := by
  have htg : ∀ w ∈ TG, w.before #[Value.ref b] s = true := fun w h => hts w (List.mem_filter.mp h).1
  have hgf := flat_of_before _ hgv
  have hA : ∀ a : Nat, a < s.heap.size → ¬ (fun q => s.heap.size ≤ q) a := fun a h => Nat.not_le.mpr h
  obtain ⟨c0, iS0, hKn0⟩ := u_known (C := RX0) (T := TX0) (N := 9) (n := 9) htg in_X0 (htg _ tw_47)
  obtain ⟨c1, iS1, hKn1⟩ := u_known (C := RX1) (T := TX1) (N := 2) (n := 2) htg in_X1 (htg _ tw_233)
  obtain ⟨c2, iS2, hKn2⟩ := u_known (C := RX2) (T := TX2) (N := 4) (n := 4) htg in_X2 (htg _ tw_92)
  obtain ⟨c3, iS3, hKn3⟩ := u_known (C := RX3) (T := TX3) (N := 2) (n := 2) htg in_X3 (htg _ tw_187)
  obtain ⟨c4, iS4, hKn4⟩ := u_known (C := RX4) (T := TX4) (N := 5) (n := 5) htg in_X4 (htg _ tw_181)
  obtain ⟨c5, iS5, hKn5⟩ := u_known (C := RX5) (T := TX5) (N := 2) (n := 2) htg in_X5 (htg _ tw_216)
  obtain ⟨c6, iS6, hKn6⟩ := u_known (C := RX6) (T := TX6) (N := 1) (n := 1) htg in_X6 (htg _ tw_118)
  obtain ⟨c7, iS7, hKn7⟩ := u_known (C := RX7) (T := TX7) (N := 1) (n := 1) htg in_X7 (htg _ tw_246)
  obtain ⟨c8, iS8, hKn8⟩ := u_known (C := RX8) (T := TX8) (N := 3) (n := 3) htg in_X8 (htg _ tw_30)
  obtain ⟨c9, iS9, hKn9⟩ := u_known (C := RX9) (T := TX9) (N := 14) (n := 14) htg in_X9 (htg _ tw_112)
  obtain ⟨c10, iS10, hKn10⟩ := u_known (C := RX10) (T := TX10) (N := 11) (n := 11) htg in_X10 (htg _ tw_22)
  obtain ⟨c11, iS11, hKn11⟩ := u_known (C := RX11) (T := TX11) (N := 47) (n := 47) htg in_X11 (htg _ tw_886)
  obtain ⟨cy0, kA0, cm0, f0, g0, h0⟩ := Cond.arrayClass_spec (htg _ tw_88)
  obtain ⟨cy1, kA1, cm1, f1, g1, h1⟩ := Cond.arrayClass_spec (htg _ tw_45)
  obtain ⟨cy2, kA2, cm2, f2, g2, h2⟩ := Cond.arrayClass_spec (htg _ tw_89)
  obtain ⟨cy3, kA3, cm3, f3, g3, h3⟩ := Cond.arrayClass_spec (htg _ tw_90)
  have hao : va_AO "NumberWords$Tongue" s := va_AO.of (hts _ (lt_i 111 (by decide +kernel)))
  obtain ⟨cm4, cy4, kA4, f4, -, g4, h4, f5⟩ := Cond.arrayOver_spec hao
  obtain ⟨tL, htL, hT⟩ := va_Tof (A := fun q => s.heap.size ≤ q) (f := fun j => .int (zLines.getD j 0)) (by decide) (hgf _ ln_arr) (va_eqt (hgf _ ln_len)) (fun j hj => va_eqt (hgf _ (ln_el j hj))) hA
  obtain ⟨adK, adV, hSt, hSe⟩ := vk_Sof (A := fun q => s.heap.size ≤ q) (N := 4) (tm := zTm) (len := zSl) (byt := zSb) zs_len (fun i hi => hgf _ (ls_ex i hi)) (fun i hi => hgf _ (ls_co i hi)) (fun i hi => hgf _ (ls_ar i hi)) (fun i hi => hgf _ (ls_le i hi)) (fun i hi j hj => hgf _ (ls_el i hi j hj)) (fun i j hi hj hij => (ls_ne i hi j hj hij).imp (hgf _) (hgf _)) hA
  refine ⟨(s.heap.size, (fun k => [c0, c1, c2, c3, c4, c5, c6, c7, c8, c9, c10, c11].getD k c0, fun k => [iS0, iS1, iS2, iS3, iS4, iS5, iS6, iS7, iS8, iS9, iS10, iS11].getD k iS0), fun k => [cy0, cy1, cy2, cy3, cy4].getD k cy0, tL, adK, adV), rfl, ⟨?_, ?_⟩, ?_⟩
  · intro k q hq
    match k, hq with
    | 0, hq => cases hq; exact hKn0
    | 1, hq => cases hq; exact hKn1
    | 2, hq => cases hq; exact hKn2
    | 3, hq => cases hq; exact hKn3
    | 4, hq => cases hq; exact hKn4
    | 5, hq => cases hq; exact hKn5
    | 6, hq => cases hq; exact hKn6
    | 7, hq => cases hq; exact hKn7
    | 8, hq => cases hq; exact hKn8
    | 9, hq => cases hq; exact hKn9
    | 10, hq => cases hq; exact hKn10
    | 11, hq => cases hq; exact hKn11
    | k + 12, hq => simp [vwCl] at hq
  · intro k q hq
    match k, hq with
    | 0, hq => cases hq; exact ⟨fun n z => ⟨fun k h => (by cases h), kA0, g0, cm0, h0⟩, f0⟩
    | 1, hq => cases hq; exact ⟨fun n z => ⟨fun k h => (by cases h), kA1, g1, cm1, h1⟩, f1⟩
    | 2, hq => cases hq; exact ⟨fun n z => ⟨fun k h => (by cases h), kA2, g2, cm2, h2⟩, f2⟩
    | 3, hq => cases hq; exact ⟨fun n z => ⟨fun k h => (by cases h), kA3, g3, cm3, h3⟩, f3⟩
    | 4, hq => cases hq; exact ⟨fun n z => ⟨fun k h => (by cases h), kA4, g4, cm4, h4⟩, kA4, cm4, g4, h4, f4, f5⟩
    | k + 5, hq => simp [tyL] at hq
  · refine ⟨va_Zref (hts _ (lt_i 875 (by decide +kernel))) (htg _ tw_13) htL hA, hT, va_Zof (hts _ (lt_i 358 (by decide +kernel))) (htg _ tw_15) (va_eqt (hgf _ ln_cs)) hA, hSt, fun i hi => vk_R.of (hts _ (lt_sr i hi)) (hSe i hi), fun w hw => va_Nw.of (lt_on w hw) (hts _ (lt_ne w hw)), va_Zqof (hts _ (lt_i 374 (by decide +kernel))) (htg _ tw_17) (hgf _ ln_pf) hA, hao⟩
theorem xM1_0 : Fr xR0 63 xM1 := by
  intro a ha
  refine ⟨fun j => ?_, fun j => rfl, fun j => rfl⟩
  unfold xM1
  rw [zRest_other (by omega) (by omega), zRest_other (by omega) (by omega), zRest_other (by omega) (by omega), zI_other (by omega)]
  rfl
theorem xM1_1 : Fr xR1 63 xM1 := Fr.setR xM1_0 (by decide)
theorem xM1_2 : Fr xR2 63 xM1 := Fr.setR xM1_1 (by decide)
theorem xM1_3 : Fr xR3 63 xM1 := Fr.setR xM1_2 (by decide)
theorem xM1_4 : Fr xR4 63 xM1 := Fr.setR xM1_3 (by decide)
theorem xM1_5 : Fr xR5 63 xM1 := Fr.setR xM1_4 (by decide)
theorem xM1_6 : Fr xR6 63 xM1 := Fr.setR xM1_5 (by decide)
theorem xM1_7 : Fr xR7 63 xM1 := Fr.setR xM1_6 (by decide)
theorem xM1_8 : Fr xR8 63 xM1 := Fr.setR xM1_7 (by decide)
theorem xM1_9 : Fr xR9 63 xM1 := Fr.setR xM1_8 (by decide)
theorem xM1_10 : Fr xR10 63 xM1 := Fr.setR xM1_9 (by decide)
theorem xM1_11 : Fr xR11 63 xM1 := Fr.setR xM1_10 (by decide)
theorem xM1_12 : Fr xR12 63 xM1 := Fr.setR xM1_11 (by decide)
theorem xM1_13 : Fr xR13 63 xM1 := Fr.setR xM1_12 (by decide)
theorem xM1_14 : Fr xR14 63 xM1 := Fr.setR xM1_13 (by decide)
theorem xM1_15 : Fr xR15 63 xM1 := Fr.setR xM1_14 (by decide)
theorem xM1_16 : Fr xR16 63 xM1 := Fr.setR xM1_15 (by decide)
theorem xM1_17 : Fr xR17 63 xM1 := Fr.setR xM1_16 (by decide)
theorem xM1_18 : Fr xR18 63 xM1 := Fr.setR xM1_17 (by decide)
theorem xM1_19 : Fr xR19 63 xM1 := Fr.setR xM1_18 (by decide)
theorem xM1_20 : Fr xR20 63 xM1 := Fr.setR xM1_19 (by decide)
theorem xM1_21 : Fr xR21 63 xM1 := Fr.setR xM1_20 (by decide)
theorem xM1_22 : Fr xR22 63 xM1 := Fr.setR xM1_21 (by decide)
theorem xM1_23 : Fr xR23 63 xM1 := Fr.setR xM1_22 (by decide)
theorem xM1_24 : Fr xR24 63 xM1 := Fr.setR xM1_23 (by decide)
theorem xM1_25 : Fr xR25 63 xM1 := Fr.setR xM1_24 (by decide)
theorem xM1_26 : Fr xR26 63 xM1 := Fr.setR xM1_25 (by decide)
theorem xM1_27 : Fr xR27 63 xM1 := Fr.setR xM1_26 (by decide)
theorem xM1_28 : Fr xR28 63 xM1 := Fr.setR xM1_27 (by decide)
theorem xM1_29 : Fr xR29 63 xM1 := Fr.setR xM1_28 (by decide)
theorem xM1_30 : Fr xR30 63 xM1 := Fr.setR xM1_29 (by decide)
theorem xM1_31 : Fr xR31 63 xM1 := Fr.setR xM1_30 (by decide)
theorem xM1_32 : Fr xR32 63 xM1 := Fr.setR xM1_31 (by decide)
theorem xM1_33 : Fr xR33 63 xM1 := Fr.setR xM1_32 (by decide)
theorem xM1_34 : Fr xR34 63 xM1 := Fr.setR xM1_33 (by decide)
theorem xM1_35 : Fr xR35 63 xM1 := Fr.setR xM1_34 (by decide)
theorem xM1_36 : Fr xR36 63 xM1 := Fr.setR xM1_35 (by decide)
theorem xM1_37 : Fr xR37 63 xM1 := Fr.setR xM1_36 (by decide)
theorem xM1_38 : Fr xR38 63 xM1 := Fr.setR xM1_37 (by decide)
theorem xM1_39 : Fr xR39 63 xM1 := Fr.setR xM1_38 (by decide)
theorem xM1_40 : Fr xR40 63 xM1 := Fr.setR xM1_39 (by decide)
theorem xM1_41 : Fr xR41 63 xM1 := Fr.setR xM1_40 (by decide)
theorem xM1_42 : Fr xR42 63 xM1 := Fr.setR xM1_41 (by decide)
theorem xM1_43 : Fr xR43 63 xM1 := Fr.setR xM1_42 (by decide)
theorem xM1_44 : Fr xR44 63 xM1 := Fr.setR xM1_43 (by decide)
theorem xM1_45 : Fr xR45 63 xM1 := Fr.setR xM1_44 (by decide)
theorem xM1_46 : Fr xR46 63 xM1 := Fr.setR xM1_45 (by decide)
theorem xM1_47 : Fr xR47 63 xM1 := Fr.setR xM1_46 (by decide)
theorem xM1_48 : Fr xR48 63 xM1 := Fr.setR xM1_47 (by decide)
theorem xM1_49 : Fr xR49 63 xM1 := Fr.setR xM1_48 (by decide)
theorem xM1_50 : Fr xR50 63 xM1 := Fr.setR xM1_49 (by decide)
theorem xM1_51 : Fr xR51 63 xM1 := Fr.setR xM1_50 (by decide)
theorem xM1_52 : Fr xR52 63 xM1 := Fr.setR xM1_51 (by decide)
theorem xM1_53 : Fr xR53 63 xM1 := Fr.setR xM1_52 (by decide)
theorem xM1_54 : Fr xR54 63 xM1 := Fr.setR xM1_53 (by decide)
theorem xM1_55 : Fr xR55 63 xM1 := Fr.setR xM1_54 (by decide)
theorem xM1_56 : Fr xR56 63 xM1 := Fr.setR xM1_55 (by decide)
theorem xM1_57 : Fr xR57 63 xM1 := Fr.setR xM1_56 (by decide)
theorem xM1_58 : Fr xR58 63 xM1 := Fr.setR xM1_57 (by decide)
theorem xM1_59 : Fr xR59 63 xM1 := Fr.setR xM1_58 (by decide)
theorem xM1_60 : Fr xR60 63 xM1 := Fr.setR xM1_59 (by decide)
theorem xM1_61 : Fr xR61 63 xM1 := Fr.setR xM1_60 (by decide)
theorem xM1_62 : Fr xR62 63 xM1 := Fr.setR xM1_61 (by decide)
theorem xM1_63 : Fr xR63 63 xM1 := Fr.setR xM1_62 (by decide)
theorem xM1_64 : Fr xR64 63 xM1 := Fr.setR xM1_63 (by decide)
theorem xM1_65 : Fr xR65 63 xM1 := Fr.setR xM1_64 (by decide)
theorem xR100_Fr : Fr xR100 63 xM1 := xM1_65
def Gr (Rf : zRf) : Prop := ∀ a j, 47 ≤ j → Rf a j = none
theorem Gr.setR {Rf : zRf} {x k r : Nat} (h : Gr Rf) (hk : k < 47) : Gr (setR Rf x k r) := fun a j hj => by
  show (if a = x ∧ j = k then some r else Rf a j) = none
  rw [if_neg (fun q => by omega)]; exact h a j hj
theorem Gr_0 : Gr xR0 := fun _ _ _ => rfl
theorem Gr_1 : Gr xR1 := Gr.setR Gr_0 (by decide)
theorem Gr_2 : Gr xR2 := Gr.setR Gr_1 (by decide)
theorem Gr_3 : Gr xR3 := Gr.setR Gr_2 (by decide)
theorem Gr_4 : Gr xR4 := Gr.setR Gr_3 (by decide)
theorem Gr_5 : Gr xR5 := Gr.setR Gr_4 (by decide)
theorem Gr_6 : Gr xR6 := Gr.setR Gr_5 (by decide)
theorem Gr_7 : Gr xR7 := Gr.setR Gr_6 (by decide)
theorem Gr_8 : Gr xR8 := Gr.setR Gr_7 (by decide)
theorem Gr_9 : Gr xR9 := Gr.setR Gr_8 (by decide)
theorem Gr_10 : Gr xR10 := Gr.setR Gr_9 (by decide)
theorem Gr_11 : Gr xR11 := Gr.setR Gr_10 (by decide)
theorem Gr_12 : Gr xR12 := Gr.setR Gr_11 (by decide)
theorem Gr_13 : Gr xR13 := Gr.setR Gr_12 (by decide)
theorem Gr_14 : Gr xR14 := Gr.setR Gr_13 (by decide)
theorem Gr_15 : Gr xR15 := Gr.setR Gr_14 (by decide)
theorem Gr_16 : Gr xR16 := Gr.setR Gr_15 (by decide)
theorem Gr_17 : Gr xR17 := Gr.setR Gr_16 (by decide)
theorem Gr_18 : Gr xR18 := Gr.setR Gr_17 (by decide)
theorem Gr_19 : Gr xR19 := Gr.setR Gr_18 (by decide)
theorem Gr_20 : Gr xR20 := Gr.setR Gr_19 (by decide)
theorem Gr_21 : Gr xR21 := Gr.setR Gr_20 (by decide)
theorem Gr_22 : Gr xR22 := Gr.setR Gr_21 (by decide)
theorem Gr_23 : Gr xR23 := Gr.setR Gr_22 (by decide)
theorem Gr_24 : Gr xR24 := Gr.setR Gr_23 (by decide)
theorem Gr_25 : Gr xR25 := Gr.setR Gr_24 (by decide)
theorem Gr_26 : Gr xR26 := Gr.setR Gr_25 (by decide)
theorem Gr_27 : Gr xR27 := Gr.setR Gr_26 (by decide)
theorem Gr_28 : Gr xR28 := Gr.setR Gr_27 (by decide)
theorem Gr_29 : Gr xR29 := Gr.setR Gr_28 (by decide)
theorem Gr_30 : Gr xR30 := Gr.setR Gr_29 (by decide)
theorem Gr_31 : Gr xR31 := Gr.setR Gr_30 (by decide)
theorem Gr_32 : Gr xR32 := Gr.setR Gr_31 (by decide)
theorem Gr_33 : Gr xR33 := Gr.setR Gr_32 (by decide)
theorem Gr_34 : Gr xR34 := Gr.setR Gr_33 (by decide)
theorem Gr_35 : Gr xR35 := Gr.setR Gr_34 (by decide)
theorem Gr_36 : Gr xR36 := Gr.setR Gr_35 (by decide)
theorem Gr_37 : Gr xR37 := Gr.setR Gr_36 (by decide)
theorem Gr_38 : Gr xR38 := Gr.setR Gr_37 (by decide)
theorem Gr_39 : Gr xR39 := Gr.setR Gr_38 (by decide)
theorem Gr_40 : Gr xR40 := Gr.setR Gr_39 (by decide)
theorem Gr_41 : Gr xR41 := Gr.setR Gr_40 (by decide)
theorem Gr_42 : Gr xR42 := Gr.setR Gr_41 (by decide)
theorem Gr_43 : Gr xR43 := Gr.setR Gr_42 (by decide)
theorem Gr_44 : Gr xR44 := Gr.setR Gr_43 (by decide)
theorem Gr_45 : Gr xR45 := Gr.setR Gr_44 (by decide)
theorem Gr_46 : Gr xR46 := Gr.setR Gr_45 (by decide)
theorem Gr_47 : Gr xR47 := Gr.setR Gr_46 (by decide)
theorem Gr_48 : Gr xR48 := Gr.setR Gr_47 (by decide)
theorem Gr_49 : Gr xR49 := Gr.setR Gr_48 (by decide)
theorem Gr_50 : Gr xR50 := Gr.setR Gr_49 (by decide)
theorem Gr_51 : Gr xR51 := Gr.setR Gr_50 (by decide)
theorem Gr_52 : Gr xR52 := Gr.setR Gr_51 (by decide)
theorem Gr_53 : Gr xR53 := Gr.setR Gr_52 (by decide)
theorem Gr_54 : Gr xR54 := Gr.setR Gr_53 (by decide)
theorem Gr_55 : Gr xR55 := Gr.setR Gr_54 (by decide)
theorem Gr_56 : Gr xR56 := Gr.setR Gr_55 (by decide)
theorem Gr_57 : Gr xR57 := Gr.setR Gr_56 (by decide)
theorem Gr_58 : Gr xR58 := Gr.setR Gr_57 (by decide)
theorem Gr_59 : Gr xR59 := Gr.setR Gr_58 (by decide)
theorem Gr_60 : Gr xR60 := Gr.setR Gr_59 (by decide)
theorem Gr_61 : Gr xR61 := Gr.setR Gr_60 (by decide)
theorem Gr_62 : Gr xR62 := Gr.setR Gr_61 (by decide)
theorem Gr_63 : Gr xR63 := Gr.setR Gr_62 (by decide)
theorem Gr_64 : Gr xR64 := Gr.setR Gr_63 (by decide)
theorem Gr_65 : Gr xR65 := Gr.setR Gr_64 (by decide)
theorem Gr_100 : Gr xR100 := Gr_65
theorem Gr_101 : Gr xR101 := Gr.setR Gr_100 (by decide)
theorem Gr_102 : Gr xR102 := Gr.setR Gr_101 (by decide)
theorem Gr_103 : Gr xR103 := Gr.setR Gr_102 (by decide)
theorem Gr_104 : Gr xR104 := Gr.setR Gr_103 (by decide)
theorem Gr_105 : Gr xR105 := Gr.setR Gr_104 (by decide)
theorem Gr_106 : Gr xR106 := Gr.setR Gr_105 (by decide)
theorem Gr_107 : Gr xR107 := Gr.setR Gr_106 (by decide)
theorem Gr_108 : Gr xR108 := Gr.setR Gr_107 (by decide)
theorem Gr_109 : Gr xR109 := Gr.setR Gr_108 (by decide)
theorem Gr_110 : Gr xR110 := Gr.setR Gr_109 (by decide)
theorem Gr_111 : Gr xR111 := Gr.setR Gr_110 (by decide)
theorem Gr_112 : Gr xR112 := Gr.setR Gr_111 (by decide)
theorem Gr_113 : Gr xR113 := Gr.setR Gr_112 (by decide)
theorem Gr_114 : Gr xR114 := Gr.setR Gr_113 (by decide)
theorem Gr_115 : Gr xR115 := Gr.setR Gr_114 (by decide)
theorem Gr_116 : Gr xR116 := Gr.setR Gr_115 (by decide)
theorem Gr_117 : Gr xR117 := Gr.setR Gr_116 (by decide)
theorem Gr_118 : Gr xR118 := Gr.setR Gr_117 (by decide)
theorem Gr_119 : Gr xR119 := Gr.setR Gr_118 (by decide)
theorem Gr_120 : Gr xR120 := Gr.setR Gr_119 (by decide)
theorem Gr_121 : Gr xR121 := Gr.setR Gr_120 (by decide)
theorem Gr_122 : Gr xR122 := Gr.setR Gr_121 (by decide)
theorem Gr_123 : Gr xR123 := Gr.setR Gr_122 (by decide)
theorem Gr_124 : Gr xR124 := Gr.setR Gr_123 (by decide)
theorem Gr_125 : Gr xR125 := Gr.setR Gr_124 (by decide)
theorem Gr_126 : Gr xR126 := Gr.setR Gr_125 (by decide)
theorem Gr_127 : Gr xR127 := Gr.setR Gr_126 (by decide)
theorem Gr_128 : Gr xR128 := Gr.setR Gr_127 (by decide)
theorem Gr_129 : Gr xR129 := Gr.setR Gr_128 (by decide)
theorem Gr_130 : Gr xR130 := Gr.setR Gr_129 (by decide)
theorem Gr_131 : Gr xR131 := Gr.setR Gr_130 (by decide)
theorem Gr_132 : Gr xR132 := Gr.setR Gr_131 (by decide)
theorem Gr_133 : Gr xR133 := Gr.setR Gr_132 (by decide)
theorem Gr_134 : Gr xR134 := Gr.setR Gr_133 (by decide)
theorem Gr_135 : Gr xR135 := Gr.setR Gr_134 (by decide)
theorem xR_all : ∀ a, a < 99 → ∀ j, j < 47 → xR135 a j = zR a j := by decide +kernel
theorem zR_len : ∀ a, a < 99 → (zRl.getD a []).length ≤ 47 := by decide +kernel
theorem xR_eq {a : Nat} (ha : a < 99) : xR135 a = zR a := by
  funext j
  by_cases hj : j < 47
  · exact xR_all a ha j hj
  · have n1 : xR135 a j = none := Gr_135 a j (by omega)
    have n2 : zR a j = none := by
      have := zR_len a ha
      unfold zR
      rw [List.getD_eq_getElem?_getD (l := zRl.getD a []), List.getElem?_eq_none (by omega)]
      rfl
    rw [n1, n2]
theorem wE_full {bs : Nat} {cy : Nat → ClassId} {M : zM} : wE bs cy xR135 99 M = wE bs cy zR zC M := by
  unfold wE
  show List.map _ (List.range 99) = List.map _ (List.range 99)
  refine List.map_congr_left (fun a ha => ?_)
  have h := xR_eq (List.mem_range.mp ha)
  have hf : fld bs xR135 M (zK a) a = fld bs zR M (zK a) a := by
    funext j
    simp only [fld, h]
  simp only [ent, fldL, hf, h]
set_option maxHeartbeats 4000000 in
set_option maxRecDepth 100000 in
/-- THE LAW, from its entry, if its plain loop comes to its end -/
theorem law_start {p : Program} {e : Env} {s : State} {m : MethodId} {below : List Frame} {meth : Method} {c : Code} (l : Launch) {b L : Nat} {xs : Nat → Int32} (F : Nat) (hFu : 3000 < F) (C0 : lw_At p s m meth c b L xs) (hp : ∃ M' : zM, loopN (Law_law_B18 F b L xs) F (0, xM3) = some (26, 0, M')) : W p l e room_1 s m #[Value.ref b] below meth c s.heap [] 0 0 (lw_Z below #[Value.ref b] s) (entryFrame m ([Value.ref b] : List Value).toArray 4) := by
  obtain ⟨hx, hb, hr, hml, hown, hts, hXs, hbl, hlocks, hgv⟩ := id C0
  obtain ⟨G, hG, hK, hX⟩ := law_env hts hgv
  have htg : ∀ w ∈ TG, w.before #[Value.ref b] s = true := fun w h => hts w (List.mem_filter.mp h).1
  have C : Cx G cL_law 4 RL p s m #[Value.ref b] c := ⟨hx, hb, hml, hown, htg, hK, hX⟩
  have hS : StG G xR0 0 xM0 s s.heap [] := ⟨fun k q h => by simp [wE] at h, va_S.rf, hG.symm, Nat.le_of_eq hG⟩
  have hF : Fr xR0 0 xM0 := fun _ _ => ⟨fun _ => rfl, fun _ => rfl, fun _ => rfl⟩
  have hl := lv_entry ([.ref b]) (n := 4) (Nat.le_of_ble_eq_true rfl)
  rw [lg_entry_eq]
  generalize (lg_sl ([.ref b]) ++ List.replicate (4 - (lg_sl ([.ref b])).length) Slot.unset).toArray = ls at hl ⊢
  have hl : lv_has ls 4 [(0, .ref b)] := hl
  refine rG_new C hS cl_X10 rfl hF tw_21 tw_22 tw_1 df_X10 ⟨by decide, by decide⟩ dL_law_0 (fun H hS => ?_)
  refine lv_dup hx hb dL_law_3 rfl ?_
  refine rG_then hS (rG_runI C hS hl.1 ci_L_9 (g_X10_init l G F (by omega)) ⟨by decide, by decide⟩ rfl rfl (Nat.le_of_ble_eq_true rfl) ⟨by decide, by decide⟩ dL_law_4) (fun H locs hS => ?_)
  have hS : StG G xR100 63 xM1 s H locs := hS
  refine lv_astore_n (lv' := [(1, .ref (G.1 + 0)), (0, .ref b)]) hx hb dL_law_7 rfl hl (by decide) rfl (fun ls hl => ?_)
  refine rG_new C hS cl_X11 rfl xR100_Fr tw_885 tw_886 tw_14 df_X11 ⟨by decide, by decide⟩ dL_law_8 (fun H hS => ?_)
  refine lv_dup hx hb dL_law_11 rfl ?_
  refine rG_then hS (rG_runI C hS hl.1 ci_L_12 (g_X11_init l G F hFu (xR100_Fr.up (by decide))) ⟨by decide, by decide⟩ rfl rfl (Nat.le_of_ble_eq_true rfl) ⟨by decide, by decide⟩ dL_law_12) (fun H locs hS => ?_)
  have hS : StG G xR135 99 xM3 s H locs := hS
  refine lv_astore_n (lv' := [(2, .ref (G.1 + 63)), (1, .ref (G.1 + 0)), (0, .ref b)]) hx hb dL_law_15 rfl hl (by decide) rfl (fun ls hl => ?_)
  refine lv_iconst (v := 0) hx hb dL_law_16 (by decide) ?_
  refine lv_istore_n (lv' := [(3, .int 0), (2, .ref (G.1 + 63)), (1, .ref (G.1 + 0)), (0, .ref b)]) hx hb dL_law_17 rfl hl (by decide) rfl (fun ls hl => ?_)
  have hSt : St G xM3 s H locs := ⟨by rw [← wE_full]; exact hS.1, hS.2.1⟩
  obtain ⟨M', hp⟩ := hp
  refine loopW (E := (E_Law_law_18 G p l e s m _ below meth c _ b L xs)) (w_Law_law_B18 C b L xs ⟨hXs, hbl, by rw [← hG] at hbl; exact Nat.not_le.mpr hbl⟩ F) F _ _ hp ?_ _ _ _ hSt (lv_sub hl [3, 2, 1, 0] rfl)
  intro H locs ls hS hl
  refine lv_iconst (v := 1) hx hb dL_law_1085 (by decide) ?_
  refine va_forget (fun q hq => by rw [← hG]; exact hS.2.2.2 q hq) ?_
  refine W.widen (k := 600000) (n := 7302250) (by decide) (by decide) ?_
  exact lw_ret hx hb hr hlocks dL_law_1086

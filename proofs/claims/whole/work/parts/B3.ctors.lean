/-! the constructors (written by a program) -/
theorem oi_X0 : jOI RX0 5 := ⟨jinT3 (List.mem_of_getElem? (i := 72) rfl) rfl, jinT1 (List.mem_of_getElem? (i := 27) rfl) rfl, jinT1 (List.mem_of_getElem? (i := 28) rfl) rfl⟩
theorem in_X0 : Cond.instantiable RX0 7 ∈ jTbl := jinT3 (List.mem_of_getElem? (i := 68) rfl) rfl
theorem ok_X0 : ∀ j, j < 7 → jokT (jty 0 j) = true := fun j hj => (by decide : ∀ j : Fin 7, jokT (jty 0 j) = true) ⟨j, hj⟩
theorem df_X0 : rowIs (jdf 0) [0, -1, -1, -1, -1, -1, 0] := rowIs_all (by decide)
theorem oi_X5 : jOI RX5 3 := ⟨jinT3 (List.mem_of_getElem? (i := 105) rfl) rfl, jinT1 (List.mem_of_getElem? (i := 27) rfl) rfl, jinT1 (List.mem_of_getElem? (i := 28) rfl) rfl⟩
theorem in_X5 : Cond.instantiable RX5 6 ∈ jTbl := jinT3 (List.mem_of_getElem? (i := 101) rfl) rfl
theorem ok_X5 : ∀ j, j < 6 → jokT (jty 5 j) = true := fun j hj => (by decide : ∀ j : Fin 6, jokT (jty 5 j) = true) ⟨j, hj⟩
theorem df_X5 : rowIs (jdf 5) [0, -1, -1, -1, -1, -1] := rowIs_all (by decide)
theorem oi_X7 : jOI RX7 3 := ⟨jinT3 (List.mem_of_getElem? (i := 36) rfl) rfl, jinT1 (List.mem_of_getElem? (i := 27) rfl) rfl, jinT1 (List.mem_of_getElem? (i := 28) rfl) rfl⟩
theorem in_X7 : Cond.instantiable RX7 9 ∈ jTbl := jinT3 (List.mem_of_getElem? (i := 32) rfl) rfl
theorem ok_X7 : ∀ j, j < 9 → jokT (jty 7 j) = true := fun j hj => (by decide : ∀ j : Fin 9, jokT (jty 7 j) = true) ⟨j, hj⟩
theorem df_X7 : rowIs (jdf 7) [0, -1, -1, -1, -1, -1, -1, 0, 0] := rowIs_all (by decide)
theorem oi_X1 : jOI RX1 3 := ⟨jinT1 (List.mem_of_getElem? (i := 175) rfl) rfl, jinT1 (List.mem_of_getElem? (i := 27) rfl) rfl, jinT1 (List.mem_of_getElem? (i := 28) rfl) rfl⟩
theorem in_X1 : Cond.instantiable RX1 9 ∈ jTbl := jinT1 (List.mem_of_getElem? (i := 171) rfl) rfl
theorem ok_X1 : ∀ j, j < 9 → jokT (jty 1 j) = true := fun j hj => (by decide : ∀ j : Fin 9, jokT (jty 1 j) = true) ⟨j, hj⟩
theorem df_X1 : rowIs (jdf 1) [0, 0, -1, -1, -1, -1, -1, -1, -1] := rowIs_all (by decide)
theorem oi_X4 : jOI RX4 3 := ⟨jinT1 (List.mem_of_getElem? (i := 34) rfl) rfl, jinT1 (List.mem_of_getElem? (i := 27) rfl) rfl, jinT1 (List.mem_of_getElem? (i := 28) rfl) rfl⟩
theorem in_X4 : Cond.instantiable RX4 15 ∈ jTbl := jinT1 (List.mem_of_getElem? (i := 30) rfl) rfl
theorem ok_X4 : ∀ j, j < 15 → jokT (jty 4 j) = true := fun j hj => (by decide : ∀ j : Fin 15, jokT (jty 4 j) = true) ⟨j, hj⟩
theorem df_X4 : rowIs (jdf 4) [0, 0, -1, 0, 0, 0, -1, -1, 0, -1, 0, 0, 0, 0, 0] := rowIs_all (by decide)
theorem nw_X4_9 : Cond.classLink RX4 9 RX6 ∈ jTbl := jinT1 (List.mem_of_getElem? (i := 35) rfl) rfl
theorem in_X6 : Cond.instantiable RX6 6 ∈ jTbl := jinT1 (List.mem_of_getElem? (i := 36) rfl) rfl
theorem ok_X6 : ∀ j, j < 6 → jokT (jty 6 j) = true := fun j hj => (by decide : ∀ j : Fin 6, jokT (jty 6 j) = true) ⟨j, hj⟩
theorem df_X6 : rowIs (jdf 6) [-1, 0, -1, -1, -1, -1] := rowIs_all (by decide)
theorem oi_X8 : jOI RX8 3 := ⟨jinT1 (List.mem_of_getElem? (i := 222) rfl) rfl, jinT1 (List.mem_of_getElem? (i := 27) rfl) rfl, jinT1 (List.mem_of_getElem? (i := 28) rfl) rfl⟩
theorem in_X8 : Cond.instantiable RX8 19 ∈ jTbl := jinT1 (List.mem_of_getElem? (i := 218) rfl) rfl
theorem ok_X8 : ∀ j, j < 19 → jokT (jty 8 j) = true := fun j hj => (by decide : ∀ j : Fin 19, jokT (jty 8 j) = true) ⟨j, hj⟩
theorem df_X8 : rowIs (jdf 8) [0, 0, 0, -1, -1, -1, -1, 0, 0, -1, -1, 0, -1, 0, -1, -1, 0, -1, -1] := rowIs_all (by decide)
theorem oi_X3 : jOI RX3 5 := ⟨jinT2 (List.mem_of_getElem? (i := 140) rfl) rfl, jinT1 (List.mem_of_getElem? (i := 27) rfl) rfl, jinT1 (List.mem_of_getElem? (i := 28) rfl) rfl⟩
theorem in_X3 : Cond.instantiable RX3 18 ∈ jTbl := jinT2 (List.mem_of_getElem? (i := 136) rfl) rfl
theorem ok_X3 : ∀ j, j < 18 → jokT (jty 3 j) = true := fun j hj => (by decide : ∀ j : Fin 18, jokT (jty 3 j) = true) ⟨j, hj⟩
theorem df_X3 : rowIs (jdf 3) [0, -1, -1, -1, 0, -1, 0, -1, 0, 0, -1, -1, -1, -1, -1, -1, -1, -1] := rowIs_all (by decide)
theorem oi_X2 : jOI RX2 5 := ⟨jinT2 (List.mem_of_getElem? (i := 212) rfl) rfl, jinT1 (List.mem_of_getElem? (i := 27) rfl) rfl, jinT1 (List.mem_of_getElem? (i := 28) rfl) rfl⟩
theorem in_X2 : Cond.instantiable RX2 18 ∈ jTbl := jinT2 (List.mem_of_getElem? (i := 208) rfl) rfl
theorem ok_X2 : ∀ j, j < 18 → jokT (jty 2 j) = true := fun j hj => (by decide : ∀ j : Fin 18, jokT (jty 2 j) = true) ⟨j, hj⟩
theorem df_X2 : rowIs (jdf 2) [0, 0, -1, 0, 0, 0, -1, -1, -1, -1, -1, -1, -1, -1, -1, -1, -1, -1] := rowIs_all (by decide)
theorem oi_X9 : jOI RX9 3 := ⟨jinT1 (List.mem_of_getElem? (i := 167) rfl) rfl, jinT1 (List.mem_of_getElem? (i := 27) rfl) rfl, jinT1 (List.mem_of_getElem? (i := 28) rfl) rfl⟩
theorem in_X9 : Cond.instantiable RX9 15 ∈ jTbl := jinT1 (List.mem_of_getElem? (i := 163) rfl) rfl
theorem ok_X9 : ∀ j, j < 15 → jokT (jty 9 j) = true := fun j hj => (by decide : ∀ j : Fin 15, jokT (jty 9 j) = true) ⟨j, hj⟩
theorem df_X9 : rowIs (jdf 9) [-1, -1, -1, 0, 0, 0, 0, -1, -1, 0, -1, -1, -1, 0, -1] := rowIs_all (by decide)
theorem nw_X9_9 : Cond.classLink RX9 9 RX8 ∈ jTbl := jinT1 (List.mem_of_getElem? (i := 168) rfl) rfl
theorem nw_X9_17 : Cond.classLink RX9 17 RX1 ∈ jTbl := jinT1 (List.mem_of_getElem? (i := 170) rfl) rfl
theorem oi_X11 : jOI RX11 1 := ⟨jinT6 (List.mem_of_getElem? (i := 198) rfl) rfl, jinT1 (List.mem_of_getElem? (i := 27) rfl) rfl, jinT1 (List.mem_of_getElem? (i := 28) rfl) rfl⟩
theorem in_X11 : Cond.instantiable RX11 105 ∈ jTbl := jinT6 (List.mem_of_getElem? (i := 194) rfl) rfl
theorem ok_X11 : ∀ j, j < 105 → jokT (jty 11 j) = true := fun j hj => (by decide : ∀ j : Fin 105, jokT (jty 11 j) = true) ⟨j, hj⟩
theorem df_X11 : rowIs (jdf 11) [0, -1, 0, -1, -1, -1, -1, 0, 0, 0, 0, 0, 0, 0, -1, -1, -1, -1, -1, -1, -1, -1, -1, -1, -1, -1, -1, -1, -1, -1, -1, -1, -1, -1, -1, -1, -1, -1, -1, -1, -1, 0, -1, -1, 0, -1, -1, -1, -1, -1, 0, -1, 0, -1, -1, -1, 0, -1, -1, -1, 0, -1, -1, -1, 0, 0, -1, 0, 0, 0, -1, -1, -1, -1, -1, 0, -1, -1, -1, -1, -1, -1, -1, -1, -1, -1, 0, -1, 0, 0, -1, -1, -1, -1, -1, -1, -1, -1, -1, -1, -1, -1, 0, 0, 0] := rowIs_all (by decide)
theorem oi_X10 : jOI RX10 1 := ⟨jinT1 (List.mem_of_getElem? (i := 26) rfl) rfl, jinT1 (List.mem_of_getElem? (i := 27) rfl) rfl, jinT1 (List.mem_of_getElem? (i := 28) rfl) rfl⟩
theorem in_X10 : Cond.instantiable RX10 14 ∈ jTbl := jinT1 (List.mem_of_getElem? (i := 22) rfl) rfl
theorem ok_X10 : ∀ j, j < 14 → jokT (jty 10 j) = true := fun j hj => (by decide : ∀ j : Fin 14, jokT (jty 10 j) = true) ⟨j, hj⟩
theorem df_X10 : rowIs (jdf 10) [-1, -1, -1, -1, -1, -1, -1, -1, -1, -1, 0, 0, 0, 0] := rowIs_all (by decide)
theorem nw_X10_7 : Cond.classLink RX10 7 RX4 ∈ jTbl := jinT1 (List.mem_of_getElem? (i := 29) rfl) rfl
theorem nw_X10_21 : Cond.classLink RX10 21 RX9 ∈ jTbl := jinT1 (List.mem_of_getElem? (i := 162) rfl) rfl
theorem nw_X10_38 : Cond.classLink RX10 38 RX3 ∈ jTbl := jinT2 (List.mem_of_getElem? (i := 134) rfl) rfl
theorem nw_X10_45 : Cond.classLink RX10 45 RX2 ∈ jTbl := jinT2 (List.mem_of_getElem? (i := 207) rfl) rfl
theorem nw_X10_52 : Cond.classLink RX10 52 RX7 ∈ jTbl := jinT3 (List.mem_of_getElem? (i := 31) rfl) rfl
theorem nw_X10_59 : Cond.classLink RX10 59 RX0 ∈ jTbl := jinT3 (List.mem_of_getElem? (i := 67) rfl) rfl
theorem nw_X10_66 : Cond.classLink RX10 66 RX5 ∈ jTbl := jinT3 (List.mem_of_getElem? (i := 100) rfl) rfl
theorem k_X0_127 {m : jM} {Q : Int → jM → Prop} (hm : rowIs (m 127) [0, -1, -1, -1, -1, -1, 0]) (hQ : ∀ m', mdO 127 133 m m' → Q 0 m') : M iX0_init [(2, 127)] (SH.take 128) m Q := by
  refine N_intro (fs := (SH.take 133)) [(2, 127)] (by decide +kernel) (Nat.le_of_ble_eq_true rfl) rfl rfl (by decide +kernel) ?_
  have c0 := ci_0 (P := 127) (lo := 128) hm (by decide) (by decide)
  refine G_aloadn (pc := 0) dX0_init_0 rfl ?_
  refine G_obj (pc := 1) dX0_init_1 oi_X0 (by decide) (Nat.le_of_ble_eq_true rfl) ?_
  refine G_aloadn (pc := 4) dX0_init_4 rfl ?_
  refine G_bipush (pc := 5) dX0_init_5 (by decide +kernel) (by decide) ?_
  refine N_newI (pc := 7) (n := 10) (L := 128) (sh' := (SH.take 129)) dX0_init_7 rfl (Nat.le_of_ble_eq_true rfl) (by decide +kernel) (by decide +kernel) (by decide +kernel) (by decide +kernel) ?_
  have c1 := ci_z c0 (by decide +kernel) (by decide) (s' := 129) (by decide)
  generalize jn m 128 zr = m1 at c1 ⊢
  clear c0
  refine G_putF (pc := 9) dX0_init_9 fl_X0_11 ff_X0_1 rfl rfl (⟨by decide, (by decide +kernel)⟩ : jat _ 127 (0 + 10) 7) (by decide) (fz_X0_1 _) ?_
  have c2 := ci_put (k' := 1) (x := 128) 1 c1 rfl (l' := [0, 128, -1, -1, -1, -1, 0]) rfl
  generalize jup m1 127 1 128 = m2 at c2 ⊢
  clear c1
  refine G_aloadn (pc := 12) dX0_init_12 rfl ?_
  refine G_bipush (pc := 13) dX0_init_13 (by decide +kernel) (by decide) ?_
  refine N_newI (pc := 15) (n := 8) (L := 129) (sh' := (SH.take 130)) dX0_init_15 rfl (Nat.le_of_ble_eq_true rfl) (by decide +kernel) (by decide +kernel) (by decide +kernel) (by decide +kernel) ?_
  have c3 := ci_z c2 (by decide +kernel) (by decide) (s' := 130) (by decide)
  generalize jn m2 129 zr = m3 at c3 ⊢
  clear c2
  refine G_putF (pc := 17) dX0_init_17 fl_X0_15 ff_X0_2 rfl rfl (⟨by decide, (by decide +kernel)⟩ : jat _ 127 (0 + 10) 7) (by decide) (fz_X0_2 _) ?_
  have c4 := ci_put (k' := 2) (x := 129) 2 c3 rfl (l' := [0, 128, 129, -1, -1, -1, 0]) rfl
  generalize jup m3 127 2 129 = m4 at c4 ⊢
  clear c3
  refine G_aloadn (pc := 20) dX0_init_20 rfl ?_
  refine G_bipush (pc := 21) dX0_init_21 (by decide +kernel) (by decide) ?_
  refine N_newZ (pc := 23) (n := 8) (L := 130) (sh' := (SH.take 131)) dX0_init_23 rfl (Nat.le_of_ble_eq_true rfl) (by decide +kernel) (by decide +kernel) (by decide +kernel) (by decide +kernel) ?_
  have c5 := ci_z c4 (by decide +kernel) (by decide) (s' := 131) (by decide)
  generalize jn m4 130 zr = m5 at c5 ⊢
  clear c4
  refine G_putF (pc := 25) dX0_init_25 fl_X0_18 ff_X0_3 rfl rfl (⟨by decide, (by decide +kernel)⟩ : jat _ 127 (0 + 10) 7) (by decide) (fz_X0_3 _) ?_
  have c6 := ci_put (k' := 3) (x := 130) 3 c5 rfl (l' := [0, 128, 129, 130, -1, -1, 0]) rfl
  generalize jup m5 127 3 130 = m6 at c6 ⊢
  clear c5
  refine G_aloadn (pc := 28) dX0_init_28 rfl ?_
  refine G_bipush (pc := 29) dX0_init_29 (by decide +kernel) (by decide) ?_
  refine N_newI (pc := 31) (n := 10) (L := 131) (sh' := (SH.take 132)) dX0_init_31 rfl (Nat.le_of_ble_eq_true rfl) (by decide +kernel) (by decide +kernel) (by decide +kernel) (by decide +kernel) ?_
  have c7 := ci_o (f := zr) (la := [0, 0, 0, 0, 0, 0, 0, 0, 0, 0]) c6 (by decide) (rowIs_all (by decide)) (s' := 132) (by decide)
  generalize jn m6 131 zr = m7 at c7 ⊢
  clear c6
  refine G_putF (pc := 33) dX0_init_33 fl_X0_22 ff_X0_4 rfl rfl (⟨by decide, (by decide +kernel)⟩ : jat _ 127 (0 + 10) 7) (by decide) (fz_X0_4 _) ?_
  have c8 := ci_put (k' := 4) (x := 131) 4 c7 rfl (l' := [0, 128, 129, 130, 131, -1, 0]) rfl
  generalize jup m7 127 4 131 = m8 at c8 ⊢
  clear c7
  refine G_aloadn (pc := 36) dX0_init_36 rfl ?_
  refine G_sipush (pc := 37) dX0_init_37 (by decide +kernel) (by decide) ?_
  refine N_newI (pc := 40) (n := 2816) (L := 132) (sh' := (SH.take 133)) dX0_init_40 rfl (Nat.le_of_ble_eq_true rfl) (by decide +kernel) (by decide +kernel) (by decide +kernel) (by decide +kernel) ?_
  have c9 := ci_z c8 (by decide +kernel) (by decide) (s' := 133) (by decide)
  generalize jn m8 132 zr = m9 at c9 ⊢
  clear c8
  refine G_putF (pc := 42) dX0_init_42 fl_X0_25 ff_X0_5 rfl rfl (⟨by decide, (by decide +kernel)⟩ : jat _ 127 (0 + 10) 7) (by decide) (fz_X0_5 _) ?_
  have c10 := ci_put (k' := 5) (x := 132) 5 c9 rfl (l' := [0, 128, 129, 130, 131, 132, 0]) rfl
  generalize jup m9 127 5 132 = m10 at c10 ⊢
  clear c9
  refine G_aloadn (pc := 45) dX0_init_45 rfl ?_
  refine G_gete (pc := 46) dX0_init_46 fl_X0_22 (⟨by decide, (by decide +kernel)⟩ : jat _ 127 (0 + 10) 7) (by decide) (ci_at c10 4 131 rfl) ?_
  refine G_iconst (pc := 49) dX0_init_49 (by decide) ?_
  refine G_callS (pc := 50) [(2, 131), (0, 1)] [] dX0_init_50 cs_X0_28 rfl (Nat.le_of_ble_eq_true rfl) rfl rfl (Nat.le_of_ble_eq_true rfl) (by decide +kernel) (by decide +kernel) (k_fill (n := 10) ⟨by decide, (by decide +kernel)⟩ (by decide) (fun _ => ?_))
  show G _ _ _ _ 53 _ [] _
  have c11 := ci_fill (la' := [1, 1, 1, 1, 1, 1, 1, 1, 1, 1]) (x := 1) c10 (by decide) (by decide) (n := 10) rfl
  generalize jfill m10 131 _ 1 = m11 at c11 ⊢
  clear c10
  exact G_ret (pc := 53) (st := []) rfl dX0_init_53 rfl (hQ _ (ci_end c11 (by decide) (by decide +kernel) (Or.inr (by decide +kernel)) (by decide)))
theorem k_X5_133 {m : jM} {Q : Int → jM → Prop} (hm : rowIs (m 133) [0, -1, -1, -1, -1, -1]) (hQ : ∀ m', mdO 133 139 m m' → Q 0 m') : M iX5_init [(2, 133)] (SH.take 134) m Q := by
  refine N_intro (fs := (SH.take 139)) [(2, 133)] (by decide +kernel) (Nat.le_of_ble_eq_true rfl) rfl rfl (by decide +kernel) ?_
  have c0 := ci_0 (P := 133) (lo := 134) hm (by decide) (by decide)
  refine G_aloadn (pc := 0) dX5_init_0 rfl ?_
  refine G_obj (pc := 1) dX5_init_1 oi_X5 (by decide) (Nat.le_of_ble_eq_true rfl) ?_
  refine G_aloadn (pc := 4) dX5_init_4 rfl ?_
  refine G_bipush (pc := 5) dX5_init_5 (by decide +kernel) (by decide) ?_
  refine N_newI (pc := 7) (n := 12) (L := 134) (sh' := (SH.take 135)) dX5_init_7 rfl (Nat.le_of_ble_eq_true rfl) (by decide +kernel) (by decide +kernel) (by decide +kernel) (by decide +kernel) ?_
  have c1 := ci_z c0 (by decide +kernel) (by decide) (s' := 135) (by decide)
  generalize jn m 134 zr = m1 at c1 ⊢
  clear c0
  refine G_putF (pc := 9) dX5_init_9 fl_X5_11 ff_X5_1 rfl rfl (⟨by decide, (by decide +kernel)⟩ : jat _ 133 (5 + 10) 6) (by decide) (fz_X5_1 _) ?_
  have c2 := ci_put (k' := 1) (x := 134) 1 c1 rfl (l' := [0, 134, -1, -1, -1, -1]) rfl
  generalize jup m1 133 1 134 = m2 at c2 ⊢
  clear c1
  refine G_aloadn (pc := 12) dX5_init_12 rfl ?_
  refine G_bipush (pc := 13) dX5_init_13 (by decide +kernel) (by decide) ?_
  refine N_newI (pc := 15) (n := 30) (L := 135) (sh' := (SH.take 136)) dX5_init_15 rfl (Nat.le_of_ble_eq_true rfl) (by decide +kernel) (by decide +kernel) (by decide +kernel) (by decide +kernel) ?_
  have c3 := ci_z c2 (by decide +kernel) (by decide) (s' := 136) (by decide)
  generalize jn m2 135 zr = m3 at c3 ⊢
  clear c2
  refine G_putF (pc := 17) dX5_init_17 fl_X5_15 ff_X5_2 rfl rfl (⟨by decide, (by decide +kernel)⟩ : jat _ 133 (5 + 10) 6) (by decide) (fz_X5_2 _) ?_
  have c4 := ci_put (k' := 2) (x := 135) 2 c3 rfl (l' := [0, 134, 135, -1, -1, -1]) rfl
  generalize jup m3 133 2 135 = m4 at c4 ⊢
  clear c3
  refine G_aloadn (pc := 20) dX5_init_20 rfl ?_
  refine G_bipush (pc := 21) dX5_init_21 (by decide +kernel) (by decide) ?_
  refine N_newI (pc := 23) (n := 30) (L := 136) (sh' := (SH.take 137)) dX5_init_23 rfl (Nat.le_of_ble_eq_true rfl) (by decide +kernel) (by decide +kernel) (by decide +kernel) (by decide +kernel) ?_
  have c5 := ci_z c4 (by decide +kernel) (by decide) (s' := 137) (by decide)
  generalize jn m4 136 zr = m5 at c5 ⊢
  clear c4
  refine G_putF (pc := 25) dX5_init_25 fl_X5_18 ff_X5_3 rfl rfl (⟨by decide, (by decide +kernel)⟩ : jat _ 133 (5 + 10) 6) (by decide) (fz_X5_3 _) ?_
  have c6 := ci_put (k' := 3) (x := 136) 3 c5 rfl (l' := [0, 134, 135, 136, -1, -1]) rfl
  generalize jup m5 133 3 136 = m6 at c6 ⊢
  clear c5
  refine G_aloadn (pc := 28) dX5_init_28 rfl ?_
  refine G_bipush (pc := 29) dX5_init_29 (by decide +kernel) (by decide) ?_
  refine N_newI (pc := 31) (n := 30) (L := 137) (sh' := (SH.take 138)) dX5_init_31 rfl (Nat.le_of_ble_eq_true rfl) (by decide +kernel) (by decide +kernel) (by decide +kernel) (by decide +kernel) ?_
  have c7 := ci_z c6 (by decide +kernel) (by decide) (s' := 138) (by decide)
  generalize jn m6 137 zr = m7 at c7 ⊢
  clear c6
  refine G_putF (pc := 33) dX5_init_33 fl_X5_21 ff_X5_4 rfl rfl (⟨by decide, (by decide +kernel)⟩ : jat _ 133 (5 + 10) 6) (by decide) (fz_X5_4 _) ?_
  have c8 := ci_put (k' := 4) (x := 137) 4 c7 rfl (l' := [0, 134, 135, 136, 137, -1]) rfl
  generalize jup m7 133 4 137 = m8 at c8 ⊢
  clear c7
  refine G_aloadn (pc := 36) dX5_init_36 rfl ?_
  refine G_bipush (pc := 37) dX5_init_37 (by decide +kernel) (by decide) ?_
  refine N_newI (pc := 39) (n := 12) (L := 138) (sh' := (SH.take 139)) dX5_init_39 rfl (Nat.le_of_ble_eq_true rfl) (by decide +kernel) (by decide +kernel) (by decide +kernel) (by decide +kernel) ?_
  have c9 := ci_z c8 (by decide +kernel) (by decide) (s' := 139) (by decide)
  generalize jn m8 138 zr = m9 at c9 ⊢
  clear c8
  refine G_putF (pc := 41) dX5_init_41 fl_X5_24 ff_X5_5 rfl rfl (⟨by decide, (by decide +kernel)⟩ : jat _ 133 (5 + 10) 6) (by decide) (fz_X5_5 _) ?_
  have c10 := ci_put (k' := 5) (x := 138) 5 c9 rfl (l' := [0, 134, 135, 136, 137, 138]) rfl
  generalize jup m9 133 5 138 = m10 at c10 ⊢
  clear c9
  exact G_ret (pc := 44) (st := []) rfl dX5_init_44 rfl (hQ _ (ci_end c10 (by decide) (by decide +kernel) (Or.inl rfl) (by decide)))
theorem k_X7_120 {m : jM} {Q : Int → jM → Prop} (hm : rowIs (m 120) [0, -1, -1, -1, -1, -1, -1, 0, 0]) (hQ : ∀ m', mdO 120 127 m m' → Q 0 m') : M iX7_init [(2, 120)] (SH.take 121) m Q := by
  refine N_intro (fs := (SH.take 127)) [(2, 120)] (by decide +kernel) (Nat.le_of_ble_eq_true rfl) rfl rfl (by decide +kernel) ?_
  have c0 := ci_0 (P := 120) (lo := 121) hm (by decide) (by decide)
  refine G_aloadn (pc := 0) dX7_init_0 rfl ?_
  refine G_obj (pc := 1) dX7_init_1 oi_X7 (by decide) (Nat.le_of_ble_eq_true rfl) ?_
  refine G_aloadn (pc := 4) dX7_init_4 rfl ?_
  refine G_sipush (pc := 5) dX7_init_5 (by decide +kernel) (by decide) ?_
  refine N_newI (pc := 8) (n := 1024) (L := 121) (sh' := (SH.take 122)) dX7_init_8 rfl (Nat.le_of_ble_eq_true rfl) (by decide +kernel) (by decide +kernel) (by decide +kernel) (by decide +kernel) ?_
  have c1 := ci_z c0 (by decide +kernel) (by decide) (s' := 122) (by decide)
  generalize jn m 121 zr = m1 at c1 ⊢
  clear c0
  refine G_putF (pc := 10) dX7_init_10 fl_X7_11 ff_X7_1 rfl rfl (⟨by decide, (by decide +kernel)⟩ : jat _ 120 (7 + 10) 9) (by decide) (fz_X7_1 _) ?_
  have c2 := ci_put (k' := 1) (x := 121) 1 c1 rfl (l' := [0, 121, -1, -1, -1, -1, -1, 0, 0]) rfl
  generalize jup m1 120 1 121 = m2 at c2 ⊢
  clear c1
  refine G_aloadn (pc := 13) dX7_init_13 rfl ?_
  refine G_bipush (pc := 14) dX7_init_14 (by decide +kernel) (by decide) ?_
  refine N_newI (pc := 16) (n := 20) (L := 122) (sh' := (SH.take 123)) dX7_init_16 rfl (Nat.le_of_ble_eq_true rfl) (by decide +kernel) (by decide +kernel) (by decide +kernel) (by decide +kernel) ?_
  have c3 := ci_z c2 (by decide +kernel) (by decide) (s' := 123) (by decide)
  generalize jn m2 122 zr = m3 at c3 ⊢
  clear c2
  refine G_putF (pc := 18) dX7_init_18 fl_X7_15 ff_X7_2 rfl rfl (⟨by decide, (by decide +kernel)⟩ : jat _ 120 (7 + 10) 9) (by decide) (fz_X7_2 _) ?_
  have c4 := ci_put (k' := 2) (x := 122) 2 c3 rfl (l' := [0, 121, 122, -1, -1, -1, -1, 0, 0]) rfl
  generalize jup m3 120 2 122 = m4 at c4 ⊢
  clear c3
  refine G_aloadn (pc := 21) dX7_init_21 rfl ?_
  refine G_bipush (pc := 22) dX7_init_22 (by decide +kernel) (by decide) ?_
  refine N_newI (pc := 24) (n := 20) (L := 123) (sh' := (SH.take 124)) dX7_init_24 rfl (Nat.le_of_ble_eq_true rfl) (by decide +kernel) (by decide +kernel) (by decide +kernel) (by decide +kernel) ?_
  have c5 := ci_z c4 (by decide +kernel) (by decide) (s' := 124) (by decide)
  generalize jn m4 123 zr = m5 at c5 ⊢
  clear c4
  refine G_putF (pc := 26) dX7_init_26 fl_X7_18 ff_X7_3 rfl rfl (⟨by decide, (by decide +kernel)⟩ : jat _ 120 (7 + 10) 9) (by decide) (fz_X7_3 _) ?_
  have c6 := ci_put (k' := 3) (x := 123) 3 c5 rfl (l' := [0, 121, 122, 123, -1, -1, -1, 0, 0]) rfl
  generalize jup m5 120 3 123 = m6 at c6 ⊢
  clear c5
  refine G_aloadn (pc := 29) dX7_init_29 rfl ?_
  refine G_bipush (pc := 30) dX7_init_30 (by decide +kernel) (by decide) ?_
  refine N_newI (pc := 32) (n := 20) (L := 124) (sh' := (SH.take 125)) dX7_init_32 rfl (Nat.le_of_ble_eq_true rfl) (by decide +kernel) (by decide +kernel) (by decide +kernel) (by decide +kernel) ?_
  have c7 := ci_z c6 (by decide +kernel) (by decide) (s' := 125) (by decide)
  generalize jn m6 124 zr = m7 at c7 ⊢
  clear c6
  refine G_putF (pc := 34) dX7_init_34 fl_X7_21 ff_X7_4 rfl rfl (⟨by decide, (by decide +kernel)⟩ : jat _ 120 (7 + 10) 9) (by decide) (fz_X7_4 _) ?_
  have c8 := ci_put (k' := 4) (x := 124) 4 c7 rfl (l' := [0, 121, 122, 123, 124, -1, -1, 0, 0]) rfl
  generalize jup m7 120 4 124 = m8 at c8 ⊢
  clear c7
  refine G_aloadn (pc := 37) dX7_init_37 rfl ?_
  refine G_sipush (pc := 38) dX7_init_38 (by decide +kernel) (by decide) ?_
  refine N_newI (pc := 41) (n := 1024) (L := 125) (sh' := (SH.take 126)) dX7_init_41 rfl (Nat.le_of_ble_eq_true rfl) (by decide +kernel) (by decide +kernel) (by decide +kernel) (by decide +kernel) ?_
  have c9 := ci_z c8 (by decide +kernel) (by decide) (s' := 126) (by decide)
  generalize jn m8 125 zr = m9 at c9 ⊢
  clear c8
  refine G_putF (pc := 43) dX7_init_43 fl_X7_24 ff_X7_5 rfl rfl (⟨by decide, (by decide +kernel)⟩ : jat _ 120 (7 + 10) 9) (by decide) (fz_X7_5 _) ?_
  have c10 := ci_put (k' := 5) (x := 125) 5 c9 rfl (l' := [0, 121, 122, 123, 124, 125, -1, 0, 0]) rfl
  generalize jup m9 120 5 125 = m10 at c10 ⊢
  clear c9
  refine G_aloadn (pc := 46) dX7_init_46 rfl ?_
  refine G_sipush (pc := 47) dX7_init_47 (by decide +kernel) (by decide) ?_
  refine N_newZ (pc := 50) (n := 1024) (L := 126) (sh' := (SH.take 127)) dX7_init_50 rfl (Nat.le_of_ble_eq_true rfl) (by decide +kernel) (by decide +kernel) (by decide +kernel) (by decide +kernel) ?_
  have c11 := ci_z c10 (by decide +kernel) (by decide) (s' := 127) (by decide)
  generalize jn m10 126 zr = m11 at c11 ⊢
  clear c10
  refine G_putF (pc := 52) dX7_init_52 fl_X7_27 ff_X7_6 rfl rfl (⟨by decide, (by decide +kernel)⟩ : jat _ 120 (7 + 10) 9) (by decide) (fz_X7_6 _) ?_
  have c12 := ci_put (k' := 6) (x := 126) 6 c11 rfl (l' := [0, 121, 122, 123, 124, 125, 126, 0, 0]) rfl
  generalize jup m11 120 6 126 = m12 at c12 ⊢
  clear c11
  exact G_ret (pc := 55) (st := []) rfl dX7_init_55 rfl (hQ _ (ci_end c12 (by decide) (by decide +kernel) (Or.inl rfl) (by decide)))
theorem k_X1_13 {m : jM} {Q : Int → jM → Prop} (hm : rowIs (m 13) [0, 0, -1, -1, -1, -1, -1, -1, -1]) (hQ : ∀ m', mdO 13 21 m m' → Q 0 m') : M iX1_init [(2, 13)] (SH.take 14) m Q := by
  refine N_intro (fs := (SH.take 21)) [(2, 13)] (by decide +kernel) (Nat.le_of_ble_eq_true rfl) rfl rfl (by decide +kernel) ?_
  have c0 := ci_0 (P := 13) (lo := 14) hm (by decide) (by decide)
  refine G_aloadn (pc := 0) dX1_init_0 rfl ?_
  refine G_obj (pc := 1) dX1_init_1 oi_X1 (by decide) (Nat.le_of_ble_eq_true rfl) ?_
  refine G_aloadn (pc := 4) dX1_init_4 rfl ?_
  refine G_bipush (pc := 5) dX1_init_5 (by decide +kernel) (by decide) ?_
  refine N_newI (pc := 7) (n := 100) (L := 14) (sh' := (SH.take 15)) dX1_init_7 rfl (Nat.le_of_ble_eq_true rfl) (by decide +kernel) (by decide +kernel) (by decide +kernel) (by decide +kernel) ?_
  have c1 := ci_z c0 (by decide +kernel) (by decide) (s' := 15) (by decide)
  generalize jn m 14 zr = m1 at c1 ⊢
  clear c0
  refine G_putF (pc := 9) dX1_init_9 fl_X1_11 ff_X1_2 rfl rfl (⟨by decide, (by decide +kernel)⟩ : jat _ 13 (1 + 10) 9) (by decide) (fz_X1_2 _) ?_
  have c2 := ci_put (k' := 2) (x := 14) 2 c1 rfl (l' := [0, 0, 14, -1, -1, -1, -1, -1, -1]) rfl
  generalize jup m1 13 2 14 = m2 at c2 ⊢
  clear c1
  refine G_aloadn (pc := 12) dX1_init_12 rfl ?_
  refine G_bipush (pc := 13) dX1_init_13 (by decide +kernel) (by decide) ?_
  refine N_newI (pc := 15) (n := 100) (L := 15) (sh' := (SH.take 16)) dX1_init_15 rfl (Nat.le_of_ble_eq_true rfl) (by decide +kernel) (by decide +kernel) (by decide +kernel) (by decide +kernel) ?_
  have c3 := ci_z c2 (by decide +kernel) (by decide) (s' := 16) (by decide)
  generalize jn m2 15 zr = m3 at c3 ⊢
  clear c2
  refine G_putF (pc := 17) dX1_init_17 fl_X1_15 ff_X1_3 rfl rfl (⟨by decide, (by decide +kernel)⟩ : jat _ 13 (1 + 10) 9) (by decide) (fz_X1_3 _) ?_
  have c4 := ci_put (k' := 3) (x := 15) 3 c3 rfl (l' := [0, 0, 14, 15, -1, -1, -1, -1, -1]) rfl
  generalize jup m3 13 3 15 = m4 at c4 ⊢
  clear c3
  refine G_aloadn (pc := 20) dX1_init_20 rfl ?_
  refine G_bipush (pc := 21) dX1_init_21 (by decide +kernel) (by decide) ?_
  refine N_newI (pc := 23) (n := 100) (L := 16) (sh' := (SH.take 17)) dX1_init_23 rfl (Nat.le_of_ble_eq_true rfl) (by decide +kernel) (by decide +kernel) (by decide +kernel) (by decide +kernel) ?_
  have c5 := ci_z c4 (by decide +kernel) (by decide) (s' := 17) (by decide)
  generalize jn m4 16 zr = m5 at c5 ⊢
  clear c4
  refine G_putF (pc := 25) dX1_init_25 fl_X1_18 ff_X1_4 rfl rfl (⟨by decide, (by decide +kernel)⟩ : jat _ 13 (1 + 10) 9) (by decide) (fz_X1_4 _) ?_
  have c6 := ci_put (k' := 4) (x := 16) 4 c5 rfl (l' := [0, 0, 14, 15, 16, -1, -1, -1, -1]) rfl
  generalize jup m5 13 4 16 = m6 at c6 ⊢
  clear c5
  refine G_aloadn (pc := 28) dX1_init_28 rfl ?_
  refine G_bipush (pc := 29) dX1_init_29 (by decide +kernel) (by decide) ?_
  refine N_newI (pc := 31) (n := 100) (L := 17) (sh' := (SH.take 18)) dX1_init_31 rfl (Nat.le_of_ble_eq_true rfl) (by decide +kernel) (by decide +kernel) (by decide +kernel) (by decide +kernel) ?_
  have c7 := ci_z c6 (by decide +kernel) (by decide) (s' := 18) (by decide)
  generalize jn m6 17 zr = m7 at c7 ⊢
  clear c6
  refine G_putF (pc := 33) dX1_init_33 fl_X1_21 ff_X1_5 rfl rfl (⟨by decide, (by decide +kernel)⟩ : jat _ 13 (1 + 10) 9) (by decide) (fz_X1_5 _) ?_
  have c8 := ci_put (k' := 5) (x := 17) 5 c7 rfl (l' := [0, 0, 14, 15, 16, 17, -1, -1, -1]) rfl
  generalize jup m7 13 5 17 = m8 at c8 ⊢
  clear c7
  refine G_aloadn (pc := 36) dX1_init_36 rfl ?_
  refine G_bipush (pc := 37) dX1_init_37 (by decide +kernel) (by decide) ?_
  refine N_newI (pc := 39) (n := 20) (L := 18) (sh' := (SH.take 19)) dX1_init_39 rfl (Nat.le_of_ble_eq_true rfl) (by decide +kernel) (by decide +kernel) (by decide +kernel) (by decide +kernel) ?_
  have c9 := ci_z c8 (by decide +kernel) (by decide) (s' := 19) (by decide)
  generalize jn m8 18 zr = m9 at c9 ⊢
  clear c8
  refine G_putF (pc := 41) dX1_init_41 fl_X1_24 ff_X1_6 rfl rfl (⟨by decide, (by decide +kernel)⟩ : jat _ 13 (1 + 10) 9) (by decide) (fz_X1_6 _) ?_
  have c10 := ci_put (k' := 6) (x := 18) 6 c9 rfl (l' := [0, 0, 14, 15, 16, 17, 18, -1, -1]) rfl
  generalize jup m9 13 6 18 = m10 at c10 ⊢
  clear c9
  refine G_aloadn (pc := 44) dX1_init_44 rfl ?_
  refine G_bipush (pc := 45) dX1_init_45 (by decide +kernel) (by decide) ?_
  refine N_newI (pc := 47) (n := 100) (L := 19) (sh' := (SH.take 20)) dX1_init_47 rfl (Nat.le_of_ble_eq_true rfl) (by decide +kernel) (by decide +kernel) (by decide +kernel) (by decide +kernel) ?_
  have c11 := ci_z c10 (by decide +kernel) (by decide) (s' := 20) (by decide)
  generalize jn m10 19 zr = m11 at c11 ⊢
  clear c10
  refine G_putF (pc := 49) dX1_init_49 fl_X1_27 ff_X1_7 rfl rfl (⟨by decide, (by decide +kernel)⟩ : jat _ 13 (1 + 10) 9) (by decide) (fz_X1_7 _) ?_
  have c12 := ci_put (k' := 7) (x := 19) 7 c11 rfl (l' := [0, 0, 14, 15, 16, 17, 18, 19, -1]) rfl
  generalize jup m11 13 7 19 = m12 at c12 ⊢
  clear c11
  refine G_aloadn (pc := 52) dX1_init_52 rfl ?_
  refine G_bipush (pc := 53) dX1_init_53 (by decide +kernel) (by decide) ?_
  refine N_newI (pc := 55) (n := 100) (L := 20) (sh' := (SH.take 21)) dX1_init_55 rfl (Nat.le_of_ble_eq_true rfl) (by decide +kernel) (by decide +kernel) (by decide +kernel) (by decide +kernel) ?_
  have c13 := ci_z c12 (by decide +kernel) (by decide) (s' := 21) (by decide)
  generalize jn m12 20 zr = m13 at c13 ⊢
  clear c12
  refine G_putF (pc := 57) dX1_init_57 fl_X1_30 ff_X1_8 rfl rfl (⟨by decide, (by decide +kernel)⟩ : jat _ 13 (1 + 10) 9) (by decide) (fz_X1_8 _) ?_
  have c14 := ci_put (k' := 8) (x := 20) 8 c13 rfl (l' := [0, 0, 14, 15, 16, 17, 18, 19, 20]) rfl
  generalize jup m13 13 8 20 = m14 at c14 ⊢
  clear c13
  exact G_ret (pc := 60) (st := []) rfl dX1_init_60 rfl (hQ _ (ci_end c14 (by decide) (by decide +kernel) (Or.inl rfl) (by decide)))
theorem k_X8_27 {m : jM} {Q : Int → jM → Prop} (hm : rowIs (m 27) [0, 0, 0, -1, -1, -1, -1, 0, 0, -1, -1, 0, -1, 0, -1, -1, 0, -1, -1]) (hu : m (-3) (-1) = 7) (hQ : ∀ m', mdO 27 39 m m' → Q 0 m') : M iX8_init [(2, 27)] (SH.take 28) m Q := by
  refine N_intro (fs := (SH.take 39)) [(2, 27)] (by decide +kernel) (Nat.le_of_ble_eq_true rfl) rfl rfl (by decide +kernel) ?_
  have c0 := ci_0 (P := 27) (lo := 28) hm (by decide) (by decide)
  refine G_aloadn (pc := 0) dX8_init_0 rfl ?_
  refine G_obj (pc := 1) dX8_init_1 oi_X8 (by decide) (Nat.le_of_ble_eq_true rfl) ?_
  refine G_aloadn (pc := 4) dX8_init_4 rfl ?_
  refine G_bipush (pc := 5) dX8_init_5 (by decide +kernel) (by decide) ?_
  refine N_newI (pc := 7) (n := 24) (L := 28) (sh' := (SH.take 29)) dX8_init_7 rfl (Nat.le_of_ble_eq_true rfl) (by decide +kernel) (by decide +kernel) (by decide +kernel) (by decide +kernel) ?_
  have c1 := ci_z c0 (by decide +kernel) (by decide) (s' := 29) (by decide)
  generalize jn m 28 zr = m1 at c1 ⊢
  clear c0
  refine G_putF (pc := 9) dX8_init_9 fl_X8_9 ff_X8_3 rfl rfl (⟨by decide, (by decide +kernel)⟩ : jat _ 27 (8 + 10) 19) (by decide) (fz_X8_3 _) ?_
  have c2 := ci_put (k' := 3) (x := 28) 3 c1 rfl (l' := [0, 0, 0, 28, -1, -1, -1, 0, 0, -1, -1, 0, -1, 0, -1, -1, 0, -1, -1]) rfl
  generalize jup m1 27 3 28 = m2 at c2 ⊢
  clear c1
  refine G_aloadn (pc := 12) dX8_init_12 rfl ?_
  refine G_bipush (pc := 13) dX8_init_13 (by decide +kernel) (by decide) ?_
  refine N_newI (pc := 15) (n := 24) (L := 29) (sh' := (SH.take 30)) dX8_init_15 rfl (Nat.le_of_ble_eq_true rfl) (by decide +kernel) (by decide +kernel) (by decide +kernel) (by decide +kernel) ?_
  have c3 := ci_z c2 (by decide +kernel) (by decide) (s' := 30) (by decide)
  generalize jn m2 29 zr = m3 at c3 ⊢
  clear c2
  refine G_putF (pc := 17) dX8_init_17 fl_X8_15 ff_X8_4 rfl rfl (⟨by decide, (by decide +kernel)⟩ : jat _ 27 (8 + 10) 19) (by decide) (fz_X8_4 _) ?_
  have c4 := ci_put (k' := 4) (x := 29) 4 c3 rfl (l' := [0, 0, 0, 28, 29, -1, -1, 0, 0, -1, -1, 0, -1, 0, -1, -1, 0, -1, -1]) rfl
  generalize jup m3 27 4 29 = m4 at c4 ⊢
  clear c3
  refine G_aloadn (pc := 20) dX8_init_20 rfl ?_
  refine G_bipush (pc := 21) dX8_init_21 (by decide +kernel) (by decide) ?_
  refine N_newI (pc := 23) (n := 24) (L := 30) (sh' := (SH.take 31)) dX8_init_23 rfl (Nat.le_of_ble_eq_true rfl) (by decide +kernel) (by decide +kernel) (by decide +kernel) (by decide +kernel) ?_
  have c5 := ci_z c4 (by decide +kernel) (by decide) (s' := 31) (by decide)
  generalize jn m4 30 zr = m5 at c5 ⊢
  clear c4
  refine G_putF (pc := 25) dX8_init_25 fl_X8_18 ff_X8_5 rfl rfl (⟨by decide, (by decide +kernel)⟩ : jat _ 27 (8 + 10) 19) (by decide) (fz_X8_5 _) ?_
  have c6 := ci_put (k' := 5) (x := 30) 5 c5 rfl (l' := [0, 0, 0, 28, 29, 30, -1, 0, 0, -1, -1, 0, -1, 0, -1, -1, 0, -1, -1]) rfl
  generalize jup m5 27 5 30 = m6 at c6 ⊢
  clear c5
  refine G_aloadn (pc := 28) dX8_init_28 rfl ?_
  refine G_bipush (pc := 29) dX8_init_29 (by decide +kernel) (by decide) ?_
  refine N_newI (pc := 31) (n := 24) (L := 31) (sh' := (SH.take 32)) dX8_init_31 rfl (Nat.le_of_ble_eq_true rfl) (by decide +kernel) (by decide +kernel) (by decide +kernel) (by decide +kernel) ?_
  have c7 := ci_z c6 (by decide +kernel) (by decide) (s' := 32) (by decide)
  generalize jn m6 31 zr = m7 at c7 ⊢
  clear c6
  refine G_putF (pc := 33) dX8_init_33 fl_X8_21 ff_X8_6 rfl rfl (⟨by decide, (by decide +kernel)⟩ : jat _ 27 (8 + 10) 19) (by decide) (fz_X8_6 _) ?_
  have c8 := ci_put (k' := 6) (x := 31) 6 c7 rfl (l' := [0, 0, 0, 28, 29, 30, 31, 0, 0, -1, -1, 0, -1, 0, -1, -1, 0, -1, -1]) rfl
  generalize jup m7 27 6 31 = m8 at c8 ⊢
  clear c7
  refine G_aloadn (pc := 36) dX8_init_36 rfl ?_
  refine G_iconst (pc := 37) dX8_init_37 (by decide) ?_
  refine N_newI (pc := 38) (n := 3) (L := 32) (sh' := (SH.take 33)) dX8_init_38 rfl (Nat.le_of_ble_eq_true rfl) (by decide +kernel) (by decide +kernel) (by decide +kernel) (by decide +kernel) ?_
  have c9 := ci_z c8 (by decide +kernel) (by decide) (s' := 33) (by decide)
  generalize jn m8 32 zr = m9 at c9 ⊢
  clear c8
  refine G_putF (pc := 40) dX8_init_40 fl_X8_24 ff_X8_9 rfl rfl (⟨by decide, (by decide +kernel)⟩ : jat _ 27 (8 + 10) 19) (by decide) (fz_X8_9 _) ?_
  have c10 := ci_put (k' := 9) (x := 32) 9 c9 rfl (l' := [0, 0, 0, 28, 29, 30, 31, 0, 0, 32, -1, 0, -1, 0, -1, -1, 0, -1, -1]) rfl
  generalize jup m9 27 9 32 = m10 at c10 ⊢
  clear c9
  refine G_aloadn (pc := 43) dX8_init_43 rfl ?_
  refine G_iconst (pc := 44) dX8_init_44 (by decide) ?_
  refine N_newI (pc := 45) (n := 3) (L := 33) (sh' := (SH.take 34)) dX8_init_45 rfl (Nat.le_of_ble_eq_true rfl) (by decide +kernel) (by decide +kernel) (by decide +kernel) (by decide +kernel) ?_
  have c11 := ci_z c10 (by decide +kernel) (by decide) (s' := 34) (by decide)
  generalize jn m10 33 zr = m11 at c11 ⊢
  clear c10
  refine G_putF (pc := 47) dX8_init_47 fl_X8_27 ff_X8_10 rfl rfl (⟨by decide, (by decide +kernel)⟩ : jat _ 27 (8 + 10) 19) (by decide) (fz_X8_10 _) ?_
  have c12 := ci_put (k' := 10) (x := 33) 10 c11 rfl (l' := [0, 0, 0, 28, 29, 30, 31, 0, 0, 32, 33, 0, -1, 0, -1, -1, 0, -1, -1]) rfl
  generalize jup m11 27 10 33 = m12 at c12 ⊢
  clear c11
  refine G_aloadn (pc := 50) dX8_init_50 rfl ?_
  refine G_bipush (pc := 51) dX8_init_51 (by decide +kernel) (by decide) ?_
  refine N_newI (pc := 53) (n := 6) (L := 34) (sh' := (SH.take 35)) dX8_init_53 rfl (Nat.le_of_ble_eq_true rfl) (by decide +kernel) (by decide +kernel) (by decide +kernel) (by decide +kernel) ?_
  have c13 := ci_z c12 (by decide +kernel) (by decide) (s' := 35) (by decide)
  generalize jn m12 34 zr = m13 at c13 ⊢
  clear c12
  refine G_putF (pc := 55) dX8_init_55 fl_X8_30 ff_X8_12 rfl rfl (⟨by decide, (by decide +kernel)⟩ : jat _ 27 (8 + 10) 19) (by decide) (fz_X8_12 _) ?_
  have c14 := ci_put (k' := 12) (x := 34) 12 c13 rfl (l' := [0, 0, 0, 28, 29, 30, 31, 0, 0, 32, 33, 0, 34, 0, -1, -1, 0, -1, -1]) rfl
  generalize jup m13 27 12 34 = m14 at c14 ⊢
  clear c13
  refine G_aloadn (pc := 58) dX8_init_58 rfl ?_
  refine G_bipush (pc := 59) dX8_init_59 (by decide +kernel) (by decide) ?_
  refine N_newI (pc := 61) (n := 8) (L := 35) (sh' := (SH.take 36)) dX8_init_61 rfl (Nat.le_of_ble_eq_true rfl) (by decide +kernel) (by decide +kernel) (by decide +kernel) (by decide +kernel) ?_
  have c15 := ci_z c14 (by decide +kernel) (by decide) (s' := 36) (by decide)
  generalize jn m14 35 zr = m15 at c15 ⊢
  clear c14
  refine G_putF (pc := 63) dX8_init_63 fl_X8_33 ff_X8_14 rfl rfl (⟨by decide, (by decide +kernel)⟩ : jat _ 27 (8 + 10) 19) (by decide) (fz_X8_14 _) ?_
  have c16 := ci_put (k' := 14) (x := 35) 14 c15 rfl (l' := [0, 0, 0, 28, 29, 30, 31, 0, 0, 32, 33, 0, 34, 0, 35, -1, 0, -1, -1]) rfl
  generalize jup m15 27 14 35 = m16 at c16 ⊢
  clear c15
  refine G_aloadn (pc := 66) dX8_init_66 rfl ?_
  refine G_sipush (pc := 67) dX8_init_67 (by decide +kernel) (by decide) ?_
  refine N_newI (pc := 70) (n := 400) (L := 36) (sh' := (SH.take 37)) dX8_init_70 rfl (Nat.le_of_ble_eq_true rfl) (by decide +kernel) (by decide +kernel) (by decide +kernel) (by decide +kernel) ?_
  have c17 := ci_z c16 (by decide +kernel) (by decide) (s' := 37) (by decide)
  generalize jn m16 36 zr = m17 at c17 ⊢
  clear c16
  refine G_putF (pc := 72) dX8_init_72 fl_X8_38 ff_X8_15 rfl rfl (⟨by decide, (by decide +kernel)⟩ : jat _ 27 (8 + 10) 19) (by decide) (fz_X8_15 _) ?_
  have c18 := ci_put (k' := 15) (x := 36) 15 c17 rfl (l' := [0, 0, 0, 28, 29, 30, 31, 0, 0, 32, 33, 0, 34, 0, 35, 36, 0, -1, -1]) rfl
  generalize jup m17 27 15 36 = m18 at c18 ⊢
  clear c17
  refine G_aloadn (pc := 75) dX8_init_75 rfl ?_
  refine G_gets (pc := 76) dX8_init_76 (jinT1 (List.mem_of_getElem? (i := 223) rfl) rfl) ?_
  refine G_xlene (pc := 79) (Or.inr rfl) dX8_init_79 (x := 7) (by rw [ci_neg c18 (by decide) (by decide)]; exact hu) ?_
  refine N_newI (pc := 80) (n := 7) (L := 37) (sh' := (SH.take 38)) dX8_init_80 rfl (Nat.le_of_ble_eq_true rfl) (by decide +kernel) (by decide +kernel) (by decide +kernel) (by decide +kernel) ?_
  have c19 := ci_z c18 (by decide +kernel) (by decide) (s' := 38) (by decide)
  generalize jn m18 37 zr = m19 at c19 ⊢
  clear c18
  refine G_putF (pc := 82) dX8_init_82 fl_X8_44 ff_X8_17 rfl rfl (⟨by decide, (by decide +kernel)⟩ : jat _ 27 (8 + 10) 19) (by decide) (fz_X8_17 _) ?_
  have c20 := ci_put (k' := 17) (x := 37) 17 c19 rfl (l' := [0, 0, 0, 28, 29, 30, 31, 0, 0, 32, 33, 0, 34, 0, 35, 36, 0, 37, -1]) rfl
  generalize jup m19 27 17 37 = m20 at c20 ⊢
  clear c19
  refine G_aloadn (pc := 85) dX8_init_85 rfl ?_
  refine G_bipush (pc := 86) dX8_init_86 (by decide +kernel) (by decide) ?_
  refine N_newI (pc := 88) (n := 32) (L := 38) (sh' := (SH.take 39)) dX8_init_88 rfl (Nat.le_of_ble_eq_true rfl) (by decide +kernel) (by decide +kernel) (by decide +kernel) (by decide +kernel) ?_
  have c21 := ci_z c20 (by decide +kernel) (by decide) (s' := 39) (by decide)
  generalize jn m20 38 zr = m21 at c21 ⊢
  clear c20
  refine G_putF (pc := 90) dX8_init_90 fl_X8_47 ff_X8_18 rfl rfl (⟨by decide, (by decide +kernel)⟩ : jat _ 27 (8 + 10) 19) (by decide) (fz_X8_18 _) ?_
  have c22 := ci_put (k' := 18) (x := 38) 18 c21 rfl (l' := [0, 0, 0, 28, 29, 30, 31, 0, 0, 32, 33, 0, 34, 0, 35, 36, 0, 37, 38]) rfl
  generalize jup m21 27 18 38 = m22 at c22 ⊢
  clear c21
  exact G_ret (pc := 93) (st := []) rfl dX8_init_93 rfl (hQ _ (ci_end c22 (by decide) (by decide +kernel) (Or.inl rfl) (by decide)))
theorem k_X8_39 {m : jM} {Q : Int → jM → Prop} (hm : rowIs (m 39) [0, 0, 0, -1, -1, -1, -1, 0, 0, -1, -1, 0, -1, 0, -1, -1, 0, -1, -1]) (hu : m (-3) (-1) = 7) (hQ : ∀ m', mdO 39 51 m m' → Q 0 m') : M iX8_init [(2, 39)] (SH.take 40) m Q := by
  refine N_intro (fs := (SH.take 51)) [(2, 39)] (by decide +kernel) (Nat.le_of_ble_eq_true rfl) rfl rfl (by decide +kernel) ?_
  have c0 := ci_0 (P := 39) (lo := 40) hm (by decide) (by decide)
  refine G_aloadn (pc := 0) dX8_init_0 rfl ?_
  refine G_obj (pc := 1) dX8_init_1 oi_X8 (by decide) (Nat.le_of_ble_eq_true rfl) ?_
  refine G_aloadn (pc := 4) dX8_init_4 rfl ?_
  refine G_bipush (pc := 5) dX8_init_5 (by decide +kernel) (by decide) ?_
  refine N_newI (pc := 7) (n := 24) (L := 40) (sh' := (SH.take 41)) dX8_init_7 rfl (Nat.le_of_ble_eq_true rfl) (by decide +kernel) (by decide +kernel) (by decide +kernel) (by decide +kernel) ?_
  have c1 := ci_z c0 (by decide +kernel) (by decide) (s' := 41) (by decide)
  generalize jn m 40 zr = m1 at c1 ⊢
  clear c0
  refine G_putF (pc := 9) dX8_init_9 fl_X8_9 ff_X8_3 rfl rfl (⟨by decide, (by decide +kernel)⟩ : jat _ 39 (8 + 10) 19) (by decide) (fz_X8_3 _) ?_
  have c2 := ci_put (k' := 3) (x := 40) 3 c1 rfl (l' := [0, 0, 0, 40, -1, -1, -1, 0, 0, -1, -1, 0, -1, 0, -1, -1, 0, -1, -1]) rfl
  generalize jup m1 39 3 40 = m2 at c2 ⊢
  clear c1
  refine G_aloadn (pc := 12) dX8_init_12 rfl ?_
  refine G_bipush (pc := 13) dX8_init_13 (by decide +kernel) (by decide) ?_
  refine N_newI (pc := 15) (n := 24) (L := 41) (sh' := (SH.take 42)) dX8_init_15 rfl (Nat.le_of_ble_eq_true rfl) (by decide +kernel) (by decide +kernel) (by decide +kernel) (by decide +kernel) ?_
  have c3 := ci_z c2 (by decide +kernel) (by decide) (s' := 42) (by decide)
  generalize jn m2 41 zr = m3 at c3 ⊢
  clear c2
  refine G_putF (pc := 17) dX8_init_17 fl_X8_15 ff_X8_4 rfl rfl (⟨by decide, (by decide +kernel)⟩ : jat _ 39 (8 + 10) 19) (by decide) (fz_X8_4 _) ?_
  have c4 := ci_put (k' := 4) (x := 41) 4 c3 rfl (l' := [0, 0, 0, 40, 41, -1, -1, 0, 0, -1, -1, 0, -1, 0, -1, -1, 0, -1, -1]) rfl
  generalize jup m3 39 4 41 = m4 at c4 ⊢
  clear c3
  refine G_aloadn (pc := 20) dX8_init_20 rfl ?_
  refine G_bipush (pc := 21) dX8_init_21 (by decide +kernel) (by decide) ?_
  refine N_newI (pc := 23) (n := 24) (L := 42) (sh' := (SH.take 43)) dX8_init_23 rfl (Nat.le_of_ble_eq_true rfl) (by decide +kernel) (by decide +kernel) (by decide +kernel) (by decide +kernel) ?_
  have c5 := ci_z c4 (by decide +kernel) (by decide) (s' := 43) (by decide)
  generalize jn m4 42 zr = m5 at c5 ⊢
  clear c4
  refine G_putF (pc := 25) dX8_init_25 fl_X8_18 ff_X8_5 rfl rfl (⟨by decide, (by decide +kernel)⟩ : jat _ 39 (8 + 10) 19) (by decide) (fz_X8_5 _) ?_
  have c6 := ci_put (k' := 5) (x := 42) 5 c5 rfl (l' := [0, 0, 0, 40, 41, 42, -1, 0, 0, -1, -1, 0, -1, 0, -1, -1, 0, -1, -1]) rfl
  generalize jup m5 39 5 42 = m6 at c6 ⊢
  clear c5
  refine G_aloadn (pc := 28) dX8_init_28 rfl ?_
  refine G_bipush (pc := 29) dX8_init_29 (by decide +kernel) (by decide) ?_
  refine N_newI (pc := 31) (n := 24) (L := 43) (sh' := (SH.take 44)) dX8_init_31 rfl (Nat.le_of_ble_eq_true rfl) (by decide +kernel) (by decide +kernel) (by decide +kernel) (by decide +kernel) ?_
  have c7 := ci_z c6 (by decide +kernel) (by decide) (s' := 44) (by decide)
  generalize jn m6 43 zr = m7 at c7 ⊢
  clear c6
  refine G_putF (pc := 33) dX8_init_33 fl_X8_21 ff_X8_6 rfl rfl (⟨by decide, (by decide +kernel)⟩ : jat _ 39 (8 + 10) 19) (by decide) (fz_X8_6 _) ?_
  have c8 := ci_put (k' := 6) (x := 43) 6 c7 rfl (l' := [0, 0, 0, 40, 41, 42, 43, 0, 0, -1, -1, 0, -1, 0, -1, -1, 0, -1, -1]) rfl
  generalize jup m7 39 6 43 = m8 at c8 ⊢
  clear c7
  refine G_aloadn (pc := 36) dX8_init_36 rfl ?_
  refine G_iconst (pc := 37) dX8_init_37 (by decide) ?_
  refine N_newI (pc := 38) (n := 3) (L := 44) (sh' := (SH.take 45)) dX8_init_38 rfl (Nat.le_of_ble_eq_true rfl) (by decide +kernel) (by decide +kernel) (by decide +kernel) (by decide +kernel) ?_
  have c9 := ci_z c8 (by decide +kernel) (by decide) (s' := 45) (by decide)
  generalize jn m8 44 zr = m9 at c9 ⊢
  clear c8
  refine G_putF (pc := 40) dX8_init_40 fl_X8_24 ff_X8_9 rfl rfl (⟨by decide, (by decide +kernel)⟩ : jat _ 39 (8 + 10) 19) (by decide) (fz_X8_9 _) ?_
  have c10 := ci_put (k' := 9) (x := 44) 9 c9 rfl (l' := [0, 0, 0, 40, 41, 42, 43, 0, 0, 44, -1, 0, -1, 0, -1, -1, 0, -1, -1]) rfl
  generalize jup m9 39 9 44 = m10 at c10 ⊢
  clear c9
  refine G_aloadn (pc := 43) dX8_init_43 rfl ?_
  refine G_iconst (pc := 44) dX8_init_44 (by decide) ?_
  refine N_newI (pc := 45) (n := 3) (L := 45) (sh' := (SH.take 46)) dX8_init_45 rfl (Nat.le_of_ble_eq_true rfl) (by decide +kernel) (by decide +kernel) (by decide +kernel) (by decide +kernel) ?_
  have c11 := ci_z c10 (by decide +kernel) (by decide) (s' := 46) (by decide)
  generalize jn m10 45 zr = m11 at c11 ⊢
  clear c10
  refine G_putF (pc := 47) dX8_init_47 fl_X8_27 ff_X8_10 rfl rfl (⟨by decide, (by decide +kernel)⟩ : jat _ 39 (8 + 10) 19) (by decide) (fz_X8_10 _) ?_
  have c12 := ci_put (k' := 10) (x := 45) 10 c11 rfl (l' := [0, 0, 0, 40, 41, 42, 43, 0, 0, 44, 45, 0, -1, 0, -1, -1, 0, -1, -1]) rfl
  generalize jup m11 39 10 45 = m12 at c12 ⊢
  clear c11
  refine G_aloadn (pc := 50) dX8_init_50 rfl ?_
  refine G_bipush (pc := 51) dX8_init_51 (by decide +kernel) (by decide) ?_
  refine N_newI (pc := 53) (n := 6) (L := 46) (sh' := (SH.take 47)) dX8_init_53 rfl (Nat.le_of_ble_eq_true rfl) (by decide +kernel) (by decide +kernel) (by decide +kernel) (by decide +kernel) ?_
  have c13 := ci_z c12 (by decide +kernel) (by decide) (s' := 47) (by decide)
  generalize jn m12 46 zr = m13 at c13 ⊢
  clear c12
  refine G_putF (pc := 55) dX8_init_55 fl_X8_30 ff_X8_12 rfl rfl (⟨by decide, (by decide +kernel)⟩ : jat _ 39 (8 + 10) 19) (by decide) (fz_X8_12 _) ?_
  have c14 := ci_put (k' := 12) (x := 46) 12 c13 rfl (l' := [0, 0, 0, 40, 41, 42, 43, 0, 0, 44, 45, 0, 46, 0, -1, -1, 0, -1, -1]) rfl
  generalize jup m13 39 12 46 = m14 at c14 ⊢
  clear c13
  refine G_aloadn (pc := 58) dX8_init_58 rfl ?_
  refine G_bipush (pc := 59) dX8_init_59 (by decide +kernel) (by decide) ?_
  refine N_newI (pc := 61) (n := 8) (L := 47) (sh' := (SH.take 48)) dX8_init_61 rfl (Nat.le_of_ble_eq_true rfl) (by decide +kernel) (by decide +kernel) (by decide +kernel) (by decide +kernel) ?_
  have c15 := ci_z c14 (by decide +kernel) (by decide) (s' := 48) (by decide)
  generalize jn m14 47 zr = m15 at c15 ⊢
  clear c14
  refine G_putF (pc := 63) dX8_init_63 fl_X8_33 ff_X8_14 rfl rfl (⟨by decide, (by decide +kernel)⟩ : jat _ 39 (8 + 10) 19) (by decide) (fz_X8_14 _) ?_
  have c16 := ci_put (k' := 14) (x := 47) 14 c15 rfl (l' := [0, 0, 0, 40, 41, 42, 43, 0, 0, 44, 45, 0, 46, 0, 47, -1, 0, -1, -1]) rfl
  generalize jup m15 39 14 47 = m16 at c16 ⊢
  clear c15
  refine G_aloadn (pc := 66) dX8_init_66 rfl ?_
  refine G_sipush (pc := 67) dX8_init_67 (by decide +kernel) (by decide) ?_
  refine N_newI (pc := 70) (n := 400) (L := 48) (sh' := (SH.take 49)) dX8_init_70 rfl (Nat.le_of_ble_eq_true rfl) (by decide +kernel) (by decide +kernel) (by decide +kernel) (by decide +kernel) ?_
  have c17 := ci_z c16 (by decide +kernel) (by decide) (s' := 49) (by decide)
  generalize jn m16 48 zr = m17 at c17 ⊢
  clear c16
  refine G_putF (pc := 72) dX8_init_72 fl_X8_38 ff_X8_15 rfl rfl (⟨by decide, (by decide +kernel)⟩ : jat _ 39 (8 + 10) 19) (by decide) (fz_X8_15 _) ?_
  have c18 := ci_put (k' := 15) (x := 48) 15 c17 rfl (l' := [0, 0, 0, 40, 41, 42, 43, 0, 0, 44, 45, 0, 46, 0, 47, 48, 0, -1, -1]) rfl
  generalize jup m17 39 15 48 = m18 at c18 ⊢
  clear c17
  refine G_aloadn (pc := 75) dX8_init_75 rfl ?_
  refine G_gets (pc := 76) dX8_init_76 (jinT1 (List.mem_of_getElem? (i := 223) rfl) rfl) ?_
  refine G_xlene (pc := 79) (Or.inr rfl) dX8_init_79 (x := 7) (by rw [ci_neg c18 (by decide) (by decide)]; exact hu) ?_
  refine N_newI (pc := 80) (n := 7) (L := 49) (sh' := (SH.take 50)) dX8_init_80 rfl (Nat.le_of_ble_eq_true rfl) (by decide +kernel) (by decide +kernel) (by decide +kernel) (by decide +kernel) ?_
  have c19 := ci_z c18 (by decide +kernel) (by decide) (s' := 50) (by decide)
  generalize jn m18 49 zr = m19 at c19 ⊢
  clear c18
  refine G_putF (pc := 82) dX8_init_82 fl_X8_44 ff_X8_17 rfl rfl (⟨by decide, (by decide +kernel)⟩ : jat _ 39 (8 + 10) 19) (by decide) (fz_X8_17 _) ?_
  have c20 := ci_put (k' := 17) (x := 49) 17 c19 rfl (l' := [0, 0, 0, 40, 41, 42, 43, 0, 0, 44, 45, 0, 46, 0, 47, 48, 0, 49, -1]) rfl
  generalize jup m19 39 17 49 = m20 at c20 ⊢
  clear c19
  refine G_aloadn (pc := 85) dX8_init_85 rfl ?_
  refine G_bipush (pc := 86) dX8_init_86 (by decide +kernel) (by decide) ?_
  refine N_newI (pc := 88) (n := 32) (L := 50) (sh' := (SH.take 51)) dX8_init_88 rfl (Nat.le_of_ble_eq_true rfl) (by decide +kernel) (by decide +kernel) (by decide +kernel) (by decide +kernel) ?_
  have c21 := ci_z c20 (by decide +kernel) (by decide) (s' := 51) (by decide)
  generalize jn m20 50 zr = m21 at c21 ⊢
  clear c20
  refine G_putF (pc := 90) dX8_init_90 fl_X8_47 ff_X8_18 rfl rfl (⟨by decide, (by decide +kernel)⟩ : jat _ 39 (8 + 10) 19) (by decide) (fz_X8_18 _) ?_
  have c22 := ci_put (k' := 18) (x := 50) 18 c21 rfl (l' := [0, 0, 0, 40, 41, 42, 43, 0, 0, 44, 45, 0, 46, 0, 47, 48, 0, 49, 50]) rfl
  generalize jup m21 39 18 50 = m22 at c22 ⊢
  clear c21
  exact G_ret (pc := 93) (st := []) rfl dX8_init_93 rfl (hQ _ (ci_end c22 (by decide) (by decide +kernel) (Or.inl rfl) (by decide)))
theorem k_X8_51 {m : jM} {Q : Int → jM → Prop} (hm : rowIs (m 51) [0, 0, 0, -1, -1, -1, -1, 0, 0, -1, -1, 0, -1, 0, -1, -1, 0, -1, -1]) (hu : m (-3) (-1) = 7) (hQ : ∀ m', mdO 51 63 m m' → Q 0 m') : M iX8_init [(2, 51)] (SH.take 52) m Q := by
  refine N_intro (fs := (SH.take 63)) [(2, 51)] (by decide +kernel) (Nat.le_of_ble_eq_true rfl) rfl rfl (by decide +kernel) ?_
  have c0 := ci_0 (P := 51) (lo := 52) hm (by decide) (by decide)
  refine G_aloadn (pc := 0) dX8_init_0 rfl ?_
  refine G_obj (pc := 1) dX8_init_1 oi_X8 (by decide) (Nat.le_of_ble_eq_true rfl) ?_
  refine G_aloadn (pc := 4) dX8_init_4 rfl ?_
  refine G_bipush (pc := 5) dX8_init_5 (by decide +kernel) (by decide) ?_
  refine N_newI (pc := 7) (n := 24) (L := 52) (sh' := (SH.take 53)) dX8_init_7 rfl (Nat.le_of_ble_eq_true rfl) (by decide +kernel) (by decide +kernel) (by decide +kernel) (by decide +kernel) ?_
  have c1 := ci_z c0 (by decide +kernel) (by decide) (s' := 53) (by decide)
  generalize jn m 52 zr = m1 at c1 ⊢
  clear c0
  refine G_putF (pc := 9) dX8_init_9 fl_X8_9 ff_X8_3 rfl rfl (⟨by decide, (by decide +kernel)⟩ : jat _ 51 (8 + 10) 19) (by decide) (fz_X8_3 _) ?_
  have c2 := ci_put (k' := 3) (x := 52) 3 c1 rfl (l' := [0, 0, 0, 52, -1, -1, -1, 0, 0, -1, -1, 0, -1, 0, -1, -1, 0, -1, -1]) rfl
  generalize jup m1 51 3 52 = m2 at c2 ⊢
  clear c1
  refine G_aloadn (pc := 12) dX8_init_12 rfl ?_
  refine G_bipush (pc := 13) dX8_init_13 (by decide +kernel) (by decide) ?_
  refine N_newI (pc := 15) (n := 24) (L := 53) (sh' := (SH.take 54)) dX8_init_15 rfl (Nat.le_of_ble_eq_true rfl) (by decide +kernel) (by decide +kernel) (by decide +kernel) (by decide +kernel) ?_
  have c3 := ci_z c2 (by decide +kernel) (by decide) (s' := 54) (by decide)
  generalize jn m2 53 zr = m3 at c3 ⊢
  clear c2
  refine G_putF (pc := 17) dX8_init_17 fl_X8_15 ff_X8_4 rfl rfl (⟨by decide, (by decide +kernel)⟩ : jat _ 51 (8 + 10) 19) (by decide) (fz_X8_4 _) ?_
  have c4 := ci_put (k' := 4) (x := 53) 4 c3 rfl (l' := [0, 0, 0, 52, 53, -1, -1, 0, 0, -1, -1, 0, -1, 0, -1, -1, 0, -1, -1]) rfl
  generalize jup m3 51 4 53 = m4 at c4 ⊢
  clear c3
  refine G_aloadn (pc := 20) dX8_init_20 rfl ?_
  refine G_bipush (pc := 21) dX8_init_21 (by decide +kernel) (by decide) ?_
  refine N_newI (pc := 23) (n := 24) (L := 54) (sh' := (SH.take 55)) dX8_init_23 rfl (Nat.le_of_ble_eq_true rfl) (by decide +kernel) (by decide +kernel) (by decide +kernel) (by decide +kernel) ?_
  have c5 := ci_z c4 (by decide +kernel) (by decide) (s' := 55) (by decide)
  generalize jn m4 54 zr = m5 at c5 ⊢
  clear c4
  refine G_putF (pc := 25) dX8_init_25 fl_X8_18 ff_X8_5 rfl rfl (⟨by decide, (by decide +kernel)⟩ : jat _ 51 (8 + 10) 19) (by decide) (fz_X8_5 _) ?_
  have c6 := ci_put (k' := 5) (x := 54) 5 c5 rfl (l' := [0, 0, 0, 52, 53, 54, -1, 0, 0, -1, -1, 0, -1, 0, -1, -1, 0, -1, -1]) rfl
  generalize jup m5 51 5 54 = m6 at c6 ⊢
  clear c5
  refine G_aloadn (pc := 28) dX8_init_28 rfl ?_
  refine G_bipush (pc := 29) dX8_init_29 (by decide +kernel) (by decide) ?_
  refine N_newI (pc := 31) (n := 24) (L := 55) (sh' := (SH.take 56)) dX8_init_31 rfl (Nat.le_of_ble_eq_true rfl) (by decide +kernel) (by decide +kernel) (by decide +kernel) (by decide +kernel) ?_
  have c7 := ci_z c6 (by decide +kernel) (by decide) (s' := 56) (by decide)
  generalize jn m6 55 zr = m7 at c7 ⊢
  clear c6
  refine G_putF (pc := 33) dX8_init_33 fl_X8_21 ff_X8_6 rfl rfl (⟨by decide, (by decide +kernel)⟩ : jat _ 51 (8 + 10) 19) (by decide) (fz_X8_6 _) ?_
  have c8 := ci_put (k' := 6) (x := 55) 6 c7 rfl (l' := [0, 0, 0, 52, 53, 54, 55, 0, 0, -1, -1, 0, -1, 0, -1, -1, 0, -1, -1]) rfl
  generalize jup m7 51 6 55 = m8 at c8 ⊢
  clear c7
  refine G_aloadn (pc := 36) dX8_init_36 rfl ?_
  refine G_iconst (pc := 37) dX8_init_37 (by decide) ?_
  refine N_newI (pc := 38) (n := 3) (L := 56) (sh' := (SH.take 57)) dX8_init_38 rfl (Nat.le_of_ble_eq_true rfl) (by decide +kernel) (by decide +kernel) (by decide +kernel) (by decide +kernel) ?_
  have c9 := ci_z c8 (by decide +kernel) (by decide) (s' := 57) (by decide)
  generalize jn m8 56 zr = m9 at c9 ⊢
  clear c8
  refine G_putF (pc := 40) dX8_init_40 fl_X8_24 ff_X8_9 rfl rfl (⟨by decide, (by decide +kernel)⟩ : jat _ 51 (8 + 10) 19) (by decide) (fz_X8_9 _) ?_
  have c10 := ci_put (k' := 9) (x := 56) 9 c9 rfl (l' := [0, 0, 0, 52, 53, 54, 55, 0, 0, 56, -1, 0, -1, 0, -1, -1, 0, -1, -1]) rfl
  generalize jup m9 51 9 56 = m10 at c10 ⊢
  clear c9
  refine G_aloadn (pc := 43) dX8_init_43 rfl ?_
  refine G_iconst (pc := 44) dX8_init_44 (by decide) ?_
  refine N_newI (pc := 45) (n := 3) (L := 57) (sh' := (SH.take 58)) dX8_init_45 rfl (Nat.le_of_ble_eq_true rfl) (by decide +kernel) (by decide +kernel) (by decide +kernel) (by decide +kernel) ?_
  have c11 := ci_z c10 (by decide +kernel) (by decide) (s' := 58) (by decide)
  generalize jn m10 57 zr = m11 at c11 ⊢
  clear c10
  refine G_putF (pc := 47) dX8_init_47 fl_X8_27 ff_X8_10 rfl rfl (⟨by decide, (by decide +kernel)⟩ : jat _ 51 (8 + 10) 19) (by decide) (fz_X8_10 _) ?_
  have c12 := ci_put (k' := 10) (x := 57) 10 c11 rfl (l' := [0, 0, 0, 52, 53, 54, 55, 0, 0, 56, 57, 0, -1, 0, -1, -1, 0, -1, -1]) rfl
  generalize jup m11 51 10 57 = m12 at c12 ⊢
  clear c11
  refine G_aloadn (pc := 50) dX8_init_50 rfl ?_
  refine G_bipush (pc := 51) dX8_init_51 (by decide +kernel) (by decide) ?_
  refine N_newI (pc := 53) (n := 6) (L := 58) (sh' := (SH.take 59)) dX8_init_53 rfl (Nat.le_of_ble_eq_true rfl) (by decide +kernel) (by decide +kernel) (by decide +kernel) (by decide +kernel) ?_
  have c13 := ci_z c12 (by decide +kernel) (by decide) (s' := 59) (by decide)
  generalize jn m12 58 zr = m13 at c13 ⊢
  clear c12
  refine G_putF (pc := 55) dX8_init_55 fl_X8_30 ff_X8_12 rfl rfl (⟨by decide, (by decide +kernel)⟩ : jat _ 51 (8 + 10) 19) (by decide) (fz_X8_12 _) ?_
  have c14 := ci_put (k' := 12) (x := 58) 12 c13 rfl (l' := [0, 0, 0, 52, 53, 54, 55, 0, 0, 56, 57, 0, 58, 0, -1, -1, 0, -1, -1]) rfl
  generalize jup m13 51 12 58 = m14 at c14 ⊢
  clear c13
  refine G_aloadn (pc := 58) dX8_init_58 rfl ?_
  refine G_bipush (pc := 59) dX8_init_59 (by decide +kernel) (by decide) ?_
  refine N_newI (pc := 61) (n := 8) (L := 59) (sh' := (SH.take 60)) dX8_init_61 rfl (Nat.le_of_ble_eq_true rfl) (by decide +kernel) (by decide +kernel) (by decide +kernel) (by decide +kernel) ?_
  have c15 := ci_z c14 (by decide +kernel) (by decide) (s' := 60) (by decide)
  generalize jn m14 59 zr = m15 at c15 ⊢
  clear c14
  refine G_putF (pc := 63) dX8_init_63 fl_X8_33 ff_X8_14 rfl rfl (⟨by decide, (by decide +kernel)⟩ : jat _ 51 (8 + 10) 19) (by decide) (fz_X8_14 _) ?_
  have c16 := ci_put (k' := 14) (x := 59) 14 c15 rfl (l' := [0, 0, 0, 52, 53, 54, 55, 0, 0, 56, 57, 0, 58, 0, 59, -1, 0, -1, -1]) rfl
  generalize jup m15 51 14 59 = m16 at c16 ⊢
  clear c15
  refine G_aloadn (pc := 66) dX8_init_66 rfl ?_
  refine G_sipush (pc := 67) dX8_init_67 (by decide +kernel) (by decide) ?_
  refine N_newI (pc := 70) (n := 400) (L := 60) (sh' := (SH.take 61)) dX8_init_70 rfl (Nat.le_of_ble_eq_true rfl) (by decide +kernel) (by decide +kernel) (by decide +kernel) (by decide +kernel) ?_
  have c17 := ci_z c16 (by decide +kernel) (by decide) (s' := 61) (by decide)
  generalize jn m16 60 zr = m17 at c17 ⊢
  clear c16
  refine G_putF (pc := 72) dX8_init_72 fl_X8_38 ff_X8_15 rfl rfl (⟨by decide, (by decide +kernel)⟩ : jat _ 51 (8 + 10) 19) (by decide) (fz_X8_15 _) ?_
  have c18 := ci_put (k' := 15) (x := 60) 15 c17 rfl (l' := [0, 0, 0, 52, 53, 54, 55, 0, 0, 56, 57, 0, 58, 0, 59, 60, 0, -1, -1]) rfl
  generalize jup m17 51 15 60 = m18 at c18 ⊢
  clear c17
  refine G_aloadn (pc := 75) dX8_init_75 rfl ?_
  refine G_gets (pc := 76) dX8_init_76 (jinT1 (List.mem_of_getElem? (i := 223) rfl) rfl) ?_
  refine G_xlene (pc := 79) (Or.inr rfl) dX8_init_79 (x := 7) (by rw [ci_neg c18 (by decide) (by decide)]; exact hu) ?_
  refine N_newI (pc := 80) (n := 7) (L := 61) (sh' := (SH.take 62)) dX8_init_80 rfl (Nat.le_of_ble_eq_true rfl) (by decide +kernel) (by decide +kernel) (by decide +kernel) (by decide +kernel) ?_
  have c19 := ci_z c18 (by decide +kernel) (by decide) (s' := 62) (by decide)
  generalize jn m18 61 zr = m19 at c19 ⊢
  clear c18
  refine G_putF (pc := 82) dX8_init_82 fl_X8_44 ff_X8_17 rfl rfl (⟨by decide, (by decide +kernel)⟩ : jat _ 51 (8 + 10) 19) (by decide) (fz_X8_17 _) ?_
  have c20 := ci_put (k' := 17) (x := 61) 17 c19 rfl (l' := [0, 0, 0, 52, 53, 54, 55, 0, 0, 56, 57, 0, 58, 0, 59, 60, 0, 61, -1]) rfl
  generalize jup m19 51 17 61 = m20 at c20 ⊢
  clear c19
  refine G_aloadn (pc := 85) dX8_init_85 rfl ?_
  refine G_bipush (pc := 86) dX8_init_86 (by decide +kernel) (by decide) ?_
  refine N_newI (pc := 88) (n := 32) (L := 62) (sh' := (SH.take 63)) dX8_init_88 rfl (Nat.le_of_ble_eq_true rfl) (by decide +kernel) (by decide +kernel) (by decide +kernel) (by decide +kernel) ?_
  have c21 := ci_z c20 (by decide +kernel) (by decide) (s' := 63) (by decide)
  generalize jn m20 62 zr = m21 at c21 ⊢
  clear c20
  refine G_putF (pc := 90) dX8_init_90 fl_X8_47 ff_X8_18 rfl rfl (⟨by decide, (by decide +kernel)⟩ : jat _ 51 (8 + 10) 19) (by decide) (fz_X8_18 _) ?_
  have c22 := ci_put (k' := 18) (x := 62) 18 c21 rfl (l' := [0, 0, 0, 52, 53, 54, 55, 0, 0, 56, 57, 0, 58, 0, 59, 60, 0, 61, 62]) rfl
  generalize jup m21 51 18 62 = m22 at c22 ⊢
  clear c21
  exact G_ret (pc := 93) (st := []) rfl dX8_init_93 rfl (hQ _ (ci_end c22 (by decide) (by decide +kernel) (Or.inl rfl) (by decide)))
theorem k_X3_64 {m : jM} {Q : Int → jM → Prop} (hm : rowIs (m 64) [0, -1, -1, -1, 0, -1, 0, -1, 0, 0, -1, -1, -1, -1, -1, -1, -1, -1]) (hQ : ∀ m', mdO 64 78 m m' → Q 0 m') : M iX3_init [(2, 64)] (SH.take 65) m Q := by
  refine N_intro (fs := (SH.take 78)) [(2, 64)] (by decide +kernel) (Nat.le_of_ble_eq_true rfl) rfl rfl (by decide +kernel) ?_
  have c0 := ci_0 (P := 64) (lo := 65) hm (by decide) (by decide)
  refine G_aloadn (pc := 0) dX3_init_0 rfl ?_
  refine G_obj (pc := 1) dX3_init_1 oi_X3 (by decide) (Nat.le_of_ble_eq_true rfl) ?_
  refine G_aloadn (pc := 4) dX3_init_4 rfl ?_
  refine G_bipush (pc := 5) dX3_init_5 (by decide +kernel) (by decide) ?_
  refine N_newI (pc := 7) (n := 6) (L := 65) (sh' := (SH.take 66)) dX3_init_7 rfl (Nat.le_of_ble_eq_true rfl) (by decide +kernel) (by decide +kernel) (by decide +kernel) (by decide +kernel) ?_
  have c1 := ci_z c0 (by decide +kernel) (by decide) (s' := 66) (by decide)
  generalize jn m 65 zr = m1 at c1 ⊢
  clear c0
  refine G_putF (pc := 9) dX3_init_9 fl_X3_11 ff_X3_1 rfl rfl (⟨by decide, (by decide +kernel)⟩ : jat _ 64 (3 + 10) 18) (by decide) (fz_X3_1 _) ?_
  have c2 := ci_put (k' := 1) (x := 65) 1 c1 rfl (l' := [0, 65, -1, -1, 0, -1, 0, -1, 0, 0, -1, -1, -1, -1, -1, -1, -1, -1]) rfl
  generalize jup m1 64 1 65 = m2 at c2 ⊢
  clear c1
  refine G_aloadn (pc := 12) dX3_init_12 rfl ?_
  refine G_bipush (pc := 13) dX3_init_13 (by decide +kernel) (by decide) ?_
  refine N_newI (pc := 15) (n := 64) (L := 66) (sh' := (SH.take 67)) dX3_init_15 rfl (Nat.le_of_ble_eq_true rfl) (by decide +kernel) (by decide +kernel) (by decide +kernel) (by decide +kernel) ?_
  have c3 := ci_z c2 (by decide +kernel) (by decide) (s' := 67) (by decide)
  generalize jn m2 66 zr = m3 at c3 ⊢
  clear c2
  refine G_putF (pc := 17) dX3_init_17 fl_X3_17 ff_X3_2 rfl rfl (⟨by decide, (by decide +kernel)⟩ : jat _ 64 (3 + 10) 18) (by decide) (fz_X3_2 _) ?_
  have c4 := ci_put (k' := 2) (x := 66) 2 c3 rfl (l' := [0, 65, 66, -1, 0, -1, 0, -1, 0, 0, -1, -1, -1, -1, -1, -1, -1, -1]) rfl
  generalize jup m3 64 2 66 = m4 at c4 ⊢
  clear c3
  refine G_aloadn (pc := 20) dX3_init_20 rfl ?_
  refine G_bipush (pc := 21) dX3_init_21 (by decide +kernel) (by decide) ?_
  refine N_newZ (pc := 23) (n := 64) (L := 67) (sh' := (SH.take 68)) dX3_init_23 rfl (Nat.le_of_ble_eq_true rfl) (by decide +kernel) (by decide +kernel) (by decide +kernel) (by decide +kernel) ?_
  have c5 := ci_z c4 (by decide +kernel) (by decide) (s' := 68) (by decide)
  generalize jn m4 67 zr = m5 at c5 ⊢
  clear c4
  refine G_putF (pc := 25) dX3_init_25 fl_X3_20 ff_X3_3 rfl rfl (⟨by decide, (by decide +kernel)⟩ : jat _ 64 (3 + 10) 18) (by decide) (fz_X3_3 _) ?_
  have c6 := ci_put (k' := 3) (x := 67) 3 c5 rfl (l' := [0, 65, 66, 67, 0, -1, 0, -1, 0, 0, -1, -1, -1, -1, -1, -1, -1, -1]) rfl
  generalize jup m5 64 3 67 = m6 at c6 ⊢
  clear c5
  refine G_aloadn (pc := 28) dX3_init_28 rfl ?_
  refine G_bipush (pc := 29) dX3_init_29 (by decide +kernel) (by decide) ?_
  refine N_newI (pc := 31) (n := 6) (L := 68) (sh' := (SH.take 69)) dX3_init_31 rfl (Nat.le_of_ble_eq_true rfl) (by decide +kernel) (by decide +kernel) (by decide +kernel) (by decide +kernel) ?_
  have c7 := ci_z c6 (by decide +kernel) (by decide) (s' := 69) (by decide)
  generalize jn m6 68 zr = m7 at c7 ⊢
  clear c6
  refine G_putF (pc := 33) dX3_init_33 fl_X3_24 ff_X3_5 rfl rfl (⟨by decide, (by decide +kernel)⟩ : jat _ 64 (3 + 10) 18) (by decide) (fz_X3_5 _) ?_
  have c8 := ci_put (k' := 5) (x := 68) 5 c7 rfl (l' := [0, 65, 66, 67, 0, 68, 0, -1, 0, 0, -1, -1, -1, -1, -1, -1, -1, -1]) rfl
  generalize jup m7 64 5 68 = m8 at c8 ⊢
  clear c7
  refine G_aloadn (pc := 36) dX3_init_36 rfl ?_
  refine G_bipush (pc := 37) dX3_init_37 (by decide +kernel) (by decide) ?_
  refine N_newI (pc := 39) (n := 6) (L := 69) (sh' := (SH.take 70)) dX3_init_39 rfl (Nat.le_of_ble_eq_true rfl) (by decide +kernel) (by decide +kernel) (by decide +kernel) (by decide +kernel) ?_
  have c9 := ci_z c8 (by decide +kernel) (by decide) (s' := 70) (by decide)
  generalize jn m8 69 zr = m9 at c9 ⊢
  clear c8
  refine G_putF (pc := 41) dX3_init_41 fl_X3_27 ff_X3_7 rfl rfl (⟨by decide, (by decide +kernel)⟩ : jat _ 64 (3 + 10) 18) (by decide) (fz_X3_7 _) ?_
  have c10 := ci_put (k' := 7) (x := 69) 7 c9 rfl (l' := [0, 65, 66, 67, 0, 68, 0, 69, 0, 0, -1, -1, -1, -1, -1, -1, -1, -1]) rfl
  generalize jup m9 64 7 69 = m10 at c10 ⊢
  clear c9
  refine G_aloadn (pc := 44) dX3_init_44 rfl ?_
  refine G_bipush (pc := 45) dX3_init_45 (by decide +kernel) (by decide) ?_
  refine N_newI (pc := 47) (n := 6) (L := 70) (sh' := (SH.take 71)) dX3_init_47 rfl (Nat.le_of_ble_eq_true rfl) (by decide +kernel) (by decide +kernel) (by decide +kernel) (by decide +kernel) ?_
  have c11 := ci_z c10 (by decide +kernel) (by decide) (s' := 71) (by decide)
  generalize jn m10 70 zr = m11 at c11 ⊢
  clear c10
  refine G_putF (pc := 49) dX3_init_49 fl_X3_30 ff_X3_10 rfl rfl (⟨by decide, (by decide +kernel)⟩ : jat _ 64 (3 + 10) 18) (by decide) (fz_X3_10 _) ?_
  have c12 := ci_put (k' := 10) (x := 70) 10 c11 rfl (l' := [0, 65, 66, 67, 0, 68, 0, 69, 0, 0, 70, -1, -1, -1, -1, -1, -1, -1]) rfl
  generalize jup m11 64 10 70 = m12 at c12 ⊢
  clear c11
  refine G_aloadn (pc := 52) dX3_init_52 rfl ?_
  refine G_bipush (pc := 53) dX3_init_53 (by decide +kernel) (by decide) ?_
  refine N_newI (pc := 55) (n := 6) (L := 71) (sh' := (SH.take 72)) dX3_init_55 rfl (Nat.le_of_ble_eq_true rfl) (by decide +kernel) (by decide +kernel) (by decide +kernel) (by decide +kernel) ?_
  have c13 := ci_z c12 (by decide +kernel) (by decide) (s' := 72) (by decide)
  generalize jn m12 71 zr = m13 at c13 ⊢
  clear c12
  refine G_putF (pc := 57) dX3_init_57 fl_X3_33 ff_X3_11 rfl rfl (⟨by decide, (by decide +kernel)⟩ : jat _ 64 (3 + 10) 18) (by decide) (fz_X3_11 _) ?_
  have c14 := ci_put (k' := 11) (x := 71) 11 c13 rfl (l' := [0, 65, 66, 67, 0, 68, 0, 69, 0, 0, 70, 71, -1, -1, -1, -1, -1, -1]) rfl
  generalize jup m13 64 11 71 = m14 at c14 ⊢
  clear c13
  refine G_aloadn (pc := 60) dX3_init_60 rfl ?_
  refine G_bipush (pc := 61) dX3_init_61 (by decide +kernel) (by decide) ?_
  refine N_newI (pc := 63) (n := 36) (L := 72) (sh' := (SH.take 73)) dX3_init_63 rfl (Nat.le_of_ble_eq_true rfl) (by decide +kernel) (by decide +kernel) (by decide +kernel) (by decide +kernel) ?_
  have c15 := ci_z c14 (by decide +kernel) (by decide) (s' := 73) (by decide)
  generalize jn m14 72 zr = m15 at c15 ⊢
  clear c14
  refine G_putF (pc := 65) dX3_init_65 fl_X3_36 ff_X3_12 rfl rfl (⟨by decide, (by decide +kernel)⟩ : jat _ 64 (3 + 10) 18) (by decide) (fz_X3_12 _) ?_
  have c16 := ci_put (k' := 12) (x := 72) 12 c15 rfl (l' := [0, 65, 66, 67, 0, 68, 0, 69, 0, 0, 70, 71, 72, -1, -1, -1, -1, -1]) rfl
  generalize jup m15 64 12 72 = m16 at c16 ⊢
  clear c15
  refine G_aloadn (pc := 68) dX3_init_68 rfl ?_
  refine G_sipush (pc := 69) dX3_init_69 (by decide +kernel) (by decide) ?_
  refine N_newI (pc := 72) (n := 384) (L := 73) (sh' := (SH.take 74)) dX3_init_72 rfl (Nat.le_of_ble_eq_true rfl) (by decide +kernel) (by decide +kernel) (by decide +kernel) (by decide +kernel) ?_
  have c17 := ci_z c16 (by decide +kernel) (by decide) (s' := 74) (by decide)
  generalize jn m16 73 zr = m17 at c17 ⊢
  clear c16
  refine G_putF (pc := 74) dX3_init_74 fl_X3_39 ff_X3_13 rfl rfl (⟨by decide, (by decide +kernel)⟩ : jat _ 64 (3 + 10) 18) (by decide) (fz_X3_13 _) ?_
  have c18 := ci_put (k' := 13) (x := 73) 13 c17 rfl (l' := [0, 65, 66, 67, 0, 68, 0, 69, 0, 0, 70, 71, 72, 73, -1, -1, -1, -1]) rfl
  generalize jup m17 64 13 73 = m18 at c18 ⊢
  clear c17
  refine G_aloadn (pc := 77) dX3_init_77 rfl ?_
  refine G_bipush (pc := 78) dX3_init_78 (by decide +kernel) (by decide) ?_
  refine N_newI (pc := 80) (n := 64) (L := 74) (sh' := (SH.take 75)) dX3_init_80 rfl (Nat.le_of_ble_eq_true rfl) (by decide +kernel) (by decide +kernel) (by decide +kernel) (by decide +kernel) ?_
  have c19 := ci_z c18 (by decide +kernel) (by decide) (s' := 75) (by decide)
  generalize jn m18 74 zr = m19 at c19 ⊢
  clear c18
  refine G_putF (pc := 82) dX3_init_82 fl_X3_42 ff_X3_14 rfl rfl (⟨by decide, (by decide +kernel)⟩ : jat _ 64 (3 + 10) 18) (by decide) (fz_X3_14 _) ?_
  have c20 := ci_put (k' := 14) (x := 74) 14 c19 rfl (l' := [0, 65, 66, 67, 0, 68, 0, 69, 0, 0, 70, 71, 72, 73, 74, -1, -1, -1]) rfl
  generalize jup m19 64 14 74 = m20 at c20 ⊢
  clear c19
  refine G_aloadn (pc := 85) dX3_init_85 rfl ?_
  refine G_bipush (pc := 86) dX3_init_86 (by decide +kernel) (by decide) ?_
  refine N_newI (pc := 88) (n := 64) (L := 75) (sh' := (SH.take 76)) dX3_init_88 rfl (Nat.le_of_ble_eq_true rfl) (by decide +kernel) (by decide +kernel) (by decide +kernel) (by decide +kernel) ?_
  have c21 := ci_z c20 (by decide +kernel) (by decide) (s' := 76) (by decide)
  generalize jn m20 75 zr = m21 at c21 ⊢
  clear c20
  refine G_putF (pc := 90) dX3_init_90 fl_X3_45 ff_X3_15 rfl rfl (⟨by decide, (by decide +kernel)⟩ : jat _ 64 (3 + 10) 18) (by decide) (fz_X3_15 _) ?_
  have c22 := ci_put (k' := 15) (x := 75) 15 c21 rfl (l' := [0, 65, 66, 67, 0, 68, 0, 69, 0, 0, 70, 71, 72, 73, 74, 75, -1, -1]) rfl
  generalize jup m21 64 15 75 = m22 at c22 ⊢
  clear c21
  refine G_aloadn (pc := 93) dX3_init_93 rfl ?_
  refine G_bipush (pc := 94) dX3_init_94 (by decide +kernel) (by decide) ?_
  refine N_newI (pc := 96) (n := 64) (L := 76) (sh' := (SH.take 77)) dX3_init_96 rfl (Nat.le_of_ble_eq_true rfl) (by decide +kernel) (by decide +kernel) (by decide +kernel) (by decide +kernel) ?_
  have c23 := ci_z c22 (by decide +kernel) (by decide) (s' := 77) (by decide)
  generalize jn m22 76 zr = m23 at c23 ⊢
  clear c22
  refine G_putF (pc := 98) dX3_init_98 fl_X3_48 ff_X3_16 rfl rfl (⟨by decide, (by decide +kernel)⟩ : jat _ 64 (3 + 10) 18) (by decide) (fz_X3_16 _) ?_
  have c24 := ci_put (k' := 16) (x := 76) 16 c23 rfl (l' := [0, 65, 66, 67, 0, 68, 0, 69, 0, 0, 70, 71, 72, 73, 74, 75, 76, -1]) rfl
  generalize jup m23 64 16 76 = m24 at c24 ⊢
  clear c23
  refine G_aloadn (pc := 101) dX3_init_101 rfl ?_
  refine G_bipush (pc := 102) dX3_init_102 (by decide +kernel) (by decide) ?_
  refine N_newI (pc := 104) (n := 64) (L := 77) (sh' := (SH.take 78)) dX3_init_104 rfl (Nat.le_of_ble_eq_true rfl) (by decide +kernel) (by decide +kernel) (by decide +kernel) (by decide +kernel) ?_
  have c25 := ci_z c24 (by decide +kernel) (by decide) (s' := 78) (by decide)
  generalize jn m24 77 zr = m25 at c25 ⊢
  clear c24
  refine G_putF (pc := 106) dX3_init_106 fl_X3_51 ff_X3_17 rfl rfl (⟨by decide, (by decide +kernel)⟩ : jat _ 64 (3 + 10) 18) (by decide) (fz_X3_17 _) ?_
  have c26 := ci_put (k' := 17) (x := 77) 17 c25 rfl (l' := [0, 65, 66, 67, 0, 68, 0, 69, 0, 0, 70, 71, 72, 73, 74, 75, 76, 77]) rfl
  generalize jup m25 64 17 77 = m26 at c26 ⊢
  clear c25
  exact G_ret (pc := 109) (st := []) rfl dX3_init_109 rfl (hQ _ (ci_end c26 (by decide) (by decide +kernel) (Or.inl rfl) (by decide)))
theorem k_X3_78 {m : jM} {Q : Int → jM → Prop} (hm : rowIs (m 78) [0, -1, -1, -1, 0, -1, 0, -1, 0, 0, -1, -1, -1, -1, -1, -1, -1, -1]) (hQ : ∀ m', mdO 78 92 m m' → Q 0 m') : M iX3_init [(2, 78)] (SH.take 79) m Q := by
  refine N_intro (fs := (SH.take 92)) [(2, 78)] (by decide +kernel) (Nat.le_of_ble_eq_true rfl) rfl rfl (by decide +kernel) ?_
  have c0 := ci_0 (P := 78) (lo := 79) hm (by decide) (by decide)
  refine G_aloadn (pc := 0) dX3_init_0 rfl ?_
  refine G_obj (pc := 1) dX3_init_1 oi_X3 (by decide) (Nat.le_of_ble_eq_true rfl) ?_
  refine G_aloadn (pc := 4) dX3_init_4 rfl ?_
  refine G_bipush (pc := 5) dX3_init_5 (by decide +kernel) (by decide) ?_
  refine N_newI (pc := 7) (n := 6) (L := 79) (sh' := (SH.take 80)) dX3_init_7 rfl (Nat.le_of_ble_eq_true rfl) (by decide +kernel) (by decide +kernel) (by decide +kernel) (by decide +kernel) ?_
  have c1 := ci_z c0 (by decide +kernel) (by decide) (s' := 80) (by decide)
  generalize jn m 79 zr = m1 at c1 ⊢
  clear c0
  refine G_putF (pc := 9) dX3_init_9 fl_X3_11 ff_X3_1 rfl rfl (⟨by decide, (by decide +kernel)⟩ : jat _ 78 (3 + 10) 18) (by decide) (fz_X3_1 _) ?_
  have c2 := ci_put (k' := 1) (x := 79) 1 c1 rfl (l' := [0, 79, -1, -1, 0, -1, 0, -1, 0, 0, -1, -1, -1, -1, -1, -1, -1, -1]) rfl
  generalize jup m1 78 1 79 = m2 at c2 ⊢
  clear c1
  refine G_aloadn (pc := 12) dX3_init_12 rfl ?_
  refine G_bipush (pc := 13) dX3_init_13 (by decide +kernel) (by decide) ?_
  refine N_newI (pc := 15) (n := 64) (L := 80) (sh' := (SH.take 81)) dX3_init_15 rfl (Nat.le_of_ble_eq_true rfl) (by decide +kernel) (by decide +kernel) (by decide +kernel) (by decide +kernel) ?_
  have c3 := ci_z c2 (by decide +kernel) (by decide) (s' := 81) (by decide)
  generalize jn m2 80 zr = m3 at c3 ⊢
  clear c2
  refine G_putF (pc := 17) dX3_init_17 fl_X3_17 ff_X3_2 rfl rfl (⟨by decide, (by decide +kernel)⟩ : jat _ 78 (3 + 10) 18) (by decide) (fz_X3_2 _) ?_
  have c4 := ci_put (k' := 2) (x := 80) 2 c3 rfl (l' := [0, 79, 80, -1, 0, -1, 0, -1, 0, 0, -1, -1, -1, -1, -1, -1, -1, -1]) rfl
  generalize jup m3 78 2 80 = m4 at c4 ⊢
  clear c3
  refine G_aloadn (pc := 20) dX3_init_20 rfl ?_
  refine G_bipush (pc := 21) dX3_init_21 (by decide +kernel) (by decide) ?_
  refine N_newZ (pc := 23) (n := 64) (L := 81) (sh' := (SH.take 82)) dX3_init_23 rfl (Nat.le_of_ble_eq_true rfl) (by decide +kernel) (by decide +kernel) (by decide +kernel) (by decide +kernel) ?_
  have c5 := ci_z c4 (by decide +kernel) (by decide) (s' := 82) (by decide)
  generalize jn m4 81 zr = m5 at c5 ⊢
  clear c4
  refine G_putF (pc := 25) dX3_init_25 fl_X3_20 ff_X3_3 rfl rfl (⟨by decide, (by decide +kernel)⟩ : jat _ 78 (3 + 10) 18) (by decide) (fz_X3_3 _) ?_
  have c6 := ci_put (k' := 3) (x := 81) 3 c5 rfl (l' := [0, 79, 80, 81, 0, -1, 0, -1, 0, 0, -1, -1, -1, -1, -1, -1, -1, -1]) rfl
  generalize jup m5 78 3 81 = m6 at c6 ⊢
  clear c5
  refine G_aloadn (pc := 28) dX3_init_28 rfl ?_
  refine G_bipush (pc := 29) dX3_init_29 (by decide +kernel) (by decide) ?_
  refine N_newI (pc := 31) (n := 6) (L := 82) (sh' := (SH.take 83)) dX3_init_31 rfl (Nat.le_of_ble_eq_true rfl) (by decide +kernel) (by decide +kernel) (by decide +kernel) (by decide +kernel) ?_
  have c7 := ci_z c6 (by decide +kernel) (by decide) (s' := 83) (by decide)
  generalize jn m6 82 zr = m7 at c7 ⊢
  clear c6
  refine G_putF (pc := 33) dX3_init_33 fl_X3_24 ff_X3_5 rfl rfl (⟨by decide, (by decide +kernel)⟩ : jat _ 78 (3 + 10) 18) (by decide) (fz_X3_5 _) ?_
  have c8 := ci_put (k' := 5) (x := 82) 5 c7 rfl (l' := [0, 79, 80, 81, 0, 82, 0, -1, 0, 0, -1, -1, -1, -1, -1, -1, -1, -1]) rfl
  generalize jup m7 78 5 82 = m8 at c8 ⊢
  clear c7
  refine G_aloadn (pc := 36) dX3_init_36 rfl ?_
  refine G_bipush (pc := 37) dX3_init_37 (by decide +kernel) (by decide) ?_
  refine N_newI (pc := 39) (n := 6) (L := 83) (sh' := (SH.take 84)) dX3_init_39 rfl (Nat.le_of_ble_eq_true rfl) (by decide +kernel) (by decide +kernel) (by decide +kernel) (by decide +kernel) ?_
  have c9 := ci_z c8 (by decide +kernel) (by decide) (s' := 84) (by decide)
  generalize jn m8 83 zr = m9 at c9 ⊢
  clear c8
  refine G_putF (pc := 41) dX3_init_41 fl_X3_27 ff_X3_7 rfl rfl (⟨by decide, (by decide +kernel)⟩ : jat _ 78 (3 + 10) 18) (by decide) (fz_X3_7 _) ?_
  have c10 := ci_put (k' := 7) (x := 83) 7 c9 rfl (l' := [0, 79, 80, 81, 0, 82, 0, 83, 0, 0, -1, -1, -1, -1, -1, -1, -1, -1]) rfl
  generalize jup m9 78 7 83 = m10 at c10 ⊢
  clear c9
  refine G_aloadn (pc := 44) dX3_init_44 rfl ?_
  refine G_bipush (pc := 45) dX3_init_45 (by decide +kernel) (by decide) ?_
  refine N_newI (pc := 47) (n := 6) (L := 84) (sh' := (SH.take 85)) dX3_init_47 rfl (Nat.le_of_ble_eq_true rfl) (by decide +kernel) (by decide +kernel) (by decide +kernel) (by decide +kernel) ?_
  have c11 := ci_z c10 (by decide +kernel) (by decide) (s' := 85) (by decide)
  generalize jn m10 84 zr = m11 at c11 ⊢
  clear c10
  refine G_putF (pc := 49) dX3_init_49 fl_X3_30 ff_X3_10 rfl rfl (⟨by decide, (by decide +kernel)⟩ : jat _ 78 (3 + 10) 18) (by decide) (fz_X3_10 _) ?_
  have c12 := ci_put (k' := 10) (x := 84) 10 c11 rfl (l' := [0, 79, 80, 81, 0, 82, 0, 83, 0, 0, 84, -1, -1, -1, -1, -1, -1, -1]) rfl
  generalize jup m11 78 10 84 = m12 at c12 ⊢
  clear c11
  refine G_aloadn (pc := 52) dX3_init_52 rfl ?_
  refine G_bipush (pc := 53) dX3_init_53 (by decide +kernel) (by decide) ?_
  refine N_newI (pc := 55) (n := 6) (L := 85) (sh' := (SH.take 86)) dX3_init_55 rfl (Nat.le_of_ble_eq_true rfl) (by decide +kernel) (by decide +kernel) (by decide +kernel) (by decide +kernel) ?_
  have c13 := ci_z c12 (by decide +kernel) (by decide) (s' := 86) (by decide)
  generalize jn m12 85 zr = m13 at c13 ⊢
  clear c12
  refine G_putF (pc := 57) dX3_init_57 fl_X3_33 ff_X3_11 rfl rfl (⟨by decide, (by decide +kernel)⟩ : jat _ 78 (3 + 10) 18) (by decide) (fz_X3_11 _) ?_
  have c14 := ci_put (k' := 11) (x := 85) 11 c13 rfl (l' := [0, 79, 80, 81, 0, 82, 0, 83, 0, 0, 84, 85, -1, -1, -1, -1, -1, -1]) rfl
  generalize jup m13 78 11 85 = m14 at c14 ⊢
  clear c13
  refine G_aloadn (pc := 60) dX3_init_60 rfl ?_
  refine G_bipush (pc := 61) dX3_init_61 (by decide +kernel) (by decide) ?_
  refine N_newI (pc := 63) (n := 36) (L := 86) (sh' := (SH.take 87)) dX3_init_63 rfl (Nat.le_of_ble_eq_true rfl) (by decide +kernel) (by decide +kernel) (by decide +kernel) (by decide +kernel) ?_
  have c15 := ci_z c14 (by decide +kernel) (by decide) (s' := 87) (by decide)
  generalize jn m14 86 zr = m15 at c15 ⊢
  clear c14
  refine G_putF (pc := 65) dX3_init_65 fl_X3_36 ff_X3_12 rfl rfl (⟨by decide, (by decide +kernel)⟩ : jat _ 78 (3 + 10) 18) (by decide) (fz_X3_12 _) ?_
  have c16 := ci_put (k' := 12) (x := 86) 12 c15 rfl (l' := [0, 79, 80, 81, 0, 82, 0, 83, 0, 0, 84, 85, 86, -1, -1, -1, -1, -1]) rfl
  generalize jup m15 78 12 86 = m16 at c16 ⊢
  clear c15
  refine G_aloadn (pc := 68) dX3_init_68 rfl ?_
  refine G_sipush (pc := 69) dX3_init_69 (by decide +kernel) (by decide) ?_
  refine N_newI (pc := 72) (n := 384) (L := 87) (sh' := (SH.take 88)) dX3_init_72 rfl (Nat.le_of_ble_eq_true rfl) (by decide +kernel) (by decide +kernel) (by decide +kernel) (by decide +kernel) ?_
  have c17 := ci_z c16 (by decide +kernel) (by decide) (s' := 88) (by decide)
  generalize jn m16 87 zr = m17 at c17 ⊢
  clear c16
  refine G_putF (pc := 74) dX3_init_74 fl_X3_39 ff_X3_13 rfl rfl (⟨by decide, (by decide +kernel)⟩ : jat _ 78 (3 + 10) 18) (by decide) (fz_X3_13 _) ?_
  have c18 := ci_put (k' := 13) (x := 87) 13 c17 rfl (l' := [0, 79, 80, 81, 0, 82, 0, 83, 0, 0, 84, 85, 86, 87, -1, -1, -1, -1]) rfl
  generalize jup m17 78 13 87 = m18 at c18 ⊢
  clear c17
  refine G_aloadn (pc := 77) dX3_init_77 rfl ?_
  refine G_bipush (pc := 78) dX3_init_78 (by decide +kernel) (by decide) ?_
  refine N_newI (pc := 80) (n := 64) (L := 88) (sh' := (SH.take 89)) dX3_init_80 rfl (Nat.le_of_ble_eq_true rfl) (by decide +kernel) (by decide +kernel) (by decide +kernel) (by decide +kernel) ?_
  have c19 := ci_z c18 (by decide +kernel) (by decide) (s' := 89) (by decide)
  generalize jn m18 88 zr = m19 at c19 ⊢
  clear c18
  refine G_putF (pc := 82) dX3_init_82 fl_X3_42 ff_X3_14 rfl rfl (⟨by decide, (by decide +kernel)⟩ : jat _ 78 (3 + 10) 18) (by decide) (fz_X3_14 _) ?_
  have c20 := ci_put (k' := 14) (x := 88) 14 c19 rfl (l' := [0, 79, 80, 81, 0, 82, 0, 83, 0, 0, 84, 85, 86, 87, 88, -1, -1, -1]) rfl
  generalize jup m19 78 14 88 = m20 at c20 ⊢
  clear c19
  refine G_aloadn (pc := 85) dX3_init_85 rfl ?_
  refine G_bipush (pc := 86) dX3_init_86 (by decide +kernel) (by decide) ?_
  refine N_newI (pc := 88) (n := 64) (L := 89) (sh' := (SH.take 90)) dX3_init_88 rfl (Nat.le_of_ble_eq_true rfl) (by decide +kernel) (by decide +kernel) (by decide +kernel) (by decide +kernel) ?_
  have c21 := ci_z c20 (by decide +kernel) (by decide) (s' := 90) (by decide)
  generalize jn m20 89 zr = m21 at c21 ⊢
  clear c20
  refine G_putF (pc := 90) dX3_init_90 fl_X3_45 ff_X3_15 rfl rfl (⟨by decide, (by decide +kernel)⟩ : jat _ 78 (3 + 10) 18) (by decide) (fz_X3_15 _) ?_
  have c22 := ci_put (k' := 15) (x := 89) 15 c21 rfl (l' := [0, 79, 80, 81, 0, 82, 0, 83, 0, 0, 84, 85, 86, 87, 88, 89, -1, -1]) rfl
  generalize jup m21 78 15 89 = m22 at c22 ⊢
  clear c21
  refine G_aloadn (pc := 93) dX3_init_93 rfl ?_
  refine G_bipush (pc := 94) dX3_init_94 (by decide +kernel) (by decide) ?_
  refine N_newI (pc := 96) (n := 64) (L := 90) (sh' := (SH.take 91)) dX3_init_96 rfl (Nat.le_of_ble_eq_true rfl) (by decide +kernel) (by decide +kernel) (by decide +kernel) (by decide +kernel) ?_
  have c23 := ci_z c22 (by decide +kernel) (by decide) (s' := 91) (by decide)
  generalize jn m22 90 zr = m23 at c23 ⊢
  clear c22
  refine G_putF (pc := 98) dX3_init_98 fl_X3_48 ff_X3_16 rfl rfl (⟨by decide, (by decide +kernel)⟩ : jat _ 78 (3 + 10) 18) (by decide) (fz_X3_16 _) ?_
  have c24 := ci_put (k' := 16) (x := 90) 16 c23 rfl (l' := [0, 79, 80, 81, 0, 82, 0, 83, 0, 0, 84, 85, 86, 87, 88, 89, 90, -1]) rfl
  generalize jup m23 78 16 90 = m24 at c24 ⊢
  clear c23
  refine G_aloadn (pc := 101) dX3_init_101 rfl ?_
  refine G_bipush (pc := 102) dX3_init_102 (by decide +kernel) (by decide) ?_
  refine N_newI (pc := 104) (n := 64) (L := 91) (sh' := (SH.take 92)) dX3_init_104 rfl (Nat.le_of_ble_eq_true rfl) (by decide +kernel) (by decide +kernel) (by decide +kernel) (by decide +kernel) ?_
  have c25 := ci_z c24 (by decide +kernel) (by decide) (s' := 92) (by decide)
  generalize jn m24 91 zr = m25 at c25 ⊢
  clear c24
  refine G_putF (pc := 106) dX3_init_106 fl_X3_51 ff_X3_17 rfl rfl (⟨by decide, (by decide +kernel)⟩ : jat _ 78 (3 + 10) 18) (by decide) (fz_X3_17 _) ?_
  have c26 := ci_put (k' := 17) (x := 91) 17 c25 rfl (l' := [0, 79, 80, 81, 0, 82, 0, 83, 0, 0, 84, 85, 86, 87, 88, 89, 90, 91]) rfl
  generalize jup m25 78 17 91 = m26 at c26 ⊢
  clear c25
  exact G_ret (pc := 109) (st := []) rfl dX3_init_109 rfl (hQ _ (ci_end c26 (by decide) (by decide +kernel) (Or.inl rfl) (by decide)))
theorem k_X3_92 {m : jM} {Q : Int → jM → Prop} (hm : rowIs (m 92) [0, -1, -1, -1, 0, -1, 0, -1, 0, 0, -1, -1, -1, -1, -1, -1, -1, -1]) (hQ : ∀ m', mdO 92 106 m m' → Q 0 m') : M iX3_init [(2, 92)] (SH.take 93) m Q := by
  refine N_intro (fs := (SH.take 106)) [(2, 92)] (by decide +kernel) (Nat.le_of_ble_eq_true rfl) rfl rfl (by decide +kernel) ?_
  have c0 := ci_0 (P := 92) (lo := 93) hm (by decide) (by decide)
  refine G_aloadn (pc := 0) dX3_init_0 rfl ?_
  refine G_obj (pc := 1) dX3_init_1 oi_X3 (by decide) (Nat.le_of_ble_eq_true rfl) ?_
  refine G_aloadn (pc := 4) dX3_init_4 rfl ?_
  refine G_bipush (pc := 5) dX3_init_5 (by decide +kernel) (by decide) ?_
  refine N_newI (pc := 7) (n := 6) (L := 93) (sh' := (SH.take 94)) dX3_init_7 rfl (Nat.le_of_ble_eq_true rfl) (by decide +kernel) (by decide +kernel) (by decide +kernel) (by decide +kernel) ?_
  have c1 := ci_z c0 (by decide +kernel) (by decide) (s' := 94) (by decide)
  generalize jn m 93 zr = m1 at c1 ⊢
  clear c0
  refine G_putF (pc := 9) dX3_init_9 fl_X3_11 ff_X3_1 rfl rfl (⟨by decide, (by decide +kernel)⟩ : jat _ 92 (3 + 10) 18) (by decide) (fz_X3_1 _) ?_
  have c2 := ci_put (k' := 1) (x := 93) 1 c1 rfl (l' := [0, 93, -1, -1, 0, -1, 0, -1, 0, 0, -1, -1, -1, -1, -1, -1, -1, -1]) rfl
  generalize jup m1 92 1 93 = m2 at c2 ⊢
  clear c1
  refine G_aloadn (pc := 12) dX3_init_12 rfl ?_
  refine G_bipush (pc := 13) dX3_init_13 (by decide +kernel) (by decide) ?_
  refine N_newI (pc := 15) (n := 64) (L := 94) (sh' := (SH.take 95)) dX3_init_15 rfl (Nat.le_of_ble_eq_true rfl) (by decide +kernel) (by decide +kernel) (by decide +kernel) (by decide +kernel) ?_
  have c3 := ci_z c2 (by decide +kernel) (by decide) (s' := 95) (by decide)
  generalize jn m2 94 zr = m3 at c3 ⊢
  clear c2
  refine G_putF (pc := 17) dX3_init_17 fl_X3_17 ff_X3_2 rfl rfl (⟨by decide, (by decide +kernel)⟩ : jat _ 92 (3 + 10) 18) (by decide) (fz_X3_2 _) ?_
  have c4 := ci_put (k' := 2) (x := 94) 2 c3 rfl (l' := [0, 93, 94, -1, 0, -1, 0, -1, 0, 0, -1, -1, -1, -1, -1, -1, -1, -1]) rfl
  generalize jup m3 92 2 94 = m4 at c4 ⊢
  clear c3
  refine G_aloadn (pc := 20) dX3_init_20 rfl ?_
  refine G_bipush (pc := 21) dX3_init_21 (by decide +kernel) (by decide) ?_
  refine N_newZ (pc := 23) (n := 64) (L := 95) (sh' := (SH.take 96)) dX3_init_23 rfl (Nat.le_of_ble_eq_true rfl) (by decide +kernel) (by decide +kernel) (by decide +kernel) (by decide +kernel) ?_
  have c5 := ci_z c4 (by decide +kernel) (by decide) (s' := 96) (by decide)
  generalize jn m4 95 zr = m5 at c5 ⊢
  clear c4
  refine G_putF (pc := 25) dX3_init_25 fl_X3_20 ff_X3_3 rfl rfl (⟨by decide, (by decide +kernel)⟩ : jat _ 92 (3 + 10) 18) (by decide) (fz_X3_3 _) ?_
  have c6 := ci_put (k' := 3) (x := 95) 3 c5 rfl (l' := [0, 93, 94, 95, 0, -1, 0, -1, 0, 0, -1, -1, -1, -1, -1, -1, -1, -1]) rfl
  generalize jup m5 92 3 95 = m6 at c6 ⊢
  clear c5
  refine G_aloadn (pc := 28) dX3_init_28 rfl ?_
  refine G_bipush (pc := 29) dX3_init_29 (by decide +kernel) (by decide) ?_
  refine N_newI (pc := 31) (n := 6) (L := 96) (sh' := (SH.take 97)) dX3_init_31 rfl (Nat.le_of_ble_eq_true rfl) (by decide +kernel) (by decide +kernel) (by decide +kernel) (by decide +kernel) ?_
  have c7 := ci_z c6 (by decide +kernel) (by decide) (s' := 97) (by decide)
  generalize jn m6 96 zr = m7 at c7 ⊢
  clear c6
  refine G_putF (pc := 33) dX3_init_33 fl_X3_24 ff_X3_5 rfl rfl (⟨by decide, (by decide +kernel)⟩ : jat _ 92 (3 + 10) 18) (by decide) (fz_X3_5 _) ?_
  have c8 := ci_put (k' := 5) (x := 96) 5 c7 rfl (l' := [0, 93, 94, 95, 0, 96, 0, -1, 0, 0, -1, -1, -1, -1, -1, -1, -1, -1]) rfl
  generalize jup m7 92 5 96 = m8 at c8 ⊢
  clear c7
  refine G_aloadn (pc := 36) dX3_init_36 rfl ?_
  refine G_bipush (pc := 37) dX3_init_37 (by decide +kernel) (by decide) ?_
  refine N_newI (pc := 39) (n := 6) (L := 97) (sh' := (SH.take 98)) dX3_init_39 rfl (Nat.le_of_ble_eq_true rfl) (by decide +kernel) (by decide +kernel) (by decide +kernel) (by decide +kernel) ?_
  have c9 := ci_z c8 (by decide +kernel) (by decide) (s' := 98) (by decide)
  generalize jn m8 97 zr = m9 at c9 ⊢
  clear c8
  refine G_putF (pc := 41) dX3_init_41 fl_X3_27 ff_X3_7 rfl rfl (⟨by decide, (by decide +kernel)⟩ : jat _ 92 (3 + 10) 18) (by decide) (fz_X3_7 _) ?_
  have c10 := ci_put (k' := 7) (x := 97) 7 c9 rfl (l' := [0, 93, 94, 95, 0, 96, 0, 97, 0, 0, -1, -1, -1, -1, -1, -1, -1, -1]) rfl
  generalize jup m9 92 7 97 = m10 at c10 ⊢
  clear c9
  refine G_aloadn (pc := 44) dX3_init_44 rfl ?_
  refine G_bipush (pc := 45) dX3_init_45 (by decide +kernel) (by decide) ?_
  refine N_newI (pc := 47) (n := 6) (L := 98) (sh' := (SH.take 99)) dX3_init_47 rfl (Nat.le_of_ble_eq_true rfl) (by decide +kernel) (by decide +kernel) (by decide +kernel) (by decide +kernel) ?_
  have c11 := ci_z c10 (by decide +kernel) (by decide) (s' := 99) (by decide)
  generalize jn m10 98 zr = m11 at c11 ⊢
  clear c10
  refine G_putF (pc := 49) dX3_init_49 fl_X3_30 ff_X3_10 rfl rfl (⟨by decide, (by decide +kernel)⟩ : jat _ 92 (3 + 10) 18) (by decide) (fz_X3_10 _) ?_
  have c12 := ci_put (k' := 10) (x := 98) 10 c11 rfl (l' := [0, 93, 94, 95, 0, 96, 0, 97, 0, 0, 98, -1, -1, -1, -1, -1, -1, -1]) rfl
  generalize jup m11 92 10 98 = m12 at c12 ⊢
  clear c11
  refine G_aloadn (pc := 52) dX3_init_52 rfl ?_
  refine G_bipush (pc := 53) dX3_init_53 (by decide +kernel) (by decide) ?_
  refine N_newI (pc := 55) (n := 6) (L := 99) (sh' := (SH.take 100)) dX3_init_55 rfl (Nat.le_of_ble_eq_true rfl) (by decide +kernel) (by decide +kernel) (by decide +kernel) (by decide +kernel) ?_
  have c13 := ci_z c12 (by decide +kernel) (by decide) (s' := 100) (by decide)
  generalize jn m12 99 zr = m13 at c13 ⊢
  clear c12
  refine G_putF (pc := 57) dX3_init_57 fl_X3_33 ff_X3_11 rfl rfl (⟨by decide, (by decide +kernel)⟩ : jat _ 92 (3 + 10) 18) (by decide) (fz_X3_11 _) ?_
  have c14 := ci_put (k' := 11) (x := 99) 11 c13 rfl (l' := [0, 93, 94, 95, 0, 96, 0, 97, 0, 0, 98, 99, -1, -1, -1, -1, -1, -1]) rfl
  generalize jup m13 92 11 99 = m14 at c14 ⊢
  clear c13
  refine G_aloadn (pc := 60) dX3_init_60 rfl ?_
  refine G_bipush (pc := 61) dX3_init_61 (by decide +kernel) (by decide) ?_
  refine N_newI (pc := 63) (n := 36) (L := 100) (sh' := (SH.take 101)) dX3_init_63 rfl (Nat.le_of_ble_eq_true rfl) (by decide +kernel) (by decide +kernel) (by decide +kernel) (by decide +kernel) ?_
  have c15 := ci_z c14 (by decide +kernel) (by decide) (s' := 101) (by decide)
  generalize jn m14 100 zr = m15 at c15 ⊢
  clear c14
  refine G_putF (pc := 65) dX3_init_65 fl_X3_36 ff_X3_12 rfl rfl (⟨by decide, (by decide +kernel)⟩ : jat _ 92 (3 + 10) 18) (by decide) (fz_X3_12 _) ?_
  have c16 := ci_put (k' := 12) (x := 100) 12 c15 rfl (l' := [0, 93, 94, 95, 0, 96, 0, 97, 0, 0, 98, 99, 100, -1, -1, -1, -1, -1]) rfl
  generalize jup m15 92 12 100 = m16 at c16 ⊢
  clear c15
  refine G_aloadn (pc := 68) dX3_init_68 rfl ?_
  refine G_sipush (pc := 69) dX3_init_69 (by decide +kernel) (by decide) ?_
  refine N_newI (pc := 72) (n := 384) (L := 101) (sh' := (SH.take 102)) dX3_init_72 rfl (Nat.le_of_ble_eq_true rfl) (by decide +kernel) (by decide +kernel) (by decide +kernel) (by decide +kernel) ?_
  have c17 := ci_z c16 (by decide +kernel) (by decide) (s' := 102) (by decide)
  generalize jn m16 101 zr = m17 at c17 ⊢
  clear c16
  refine G_putF (pc := 74) dX3_init_74 fl_X3_39 ff_X3_13 rfl rfl (⟨by decide, (by decide +kernel)⟩ : jat _ 92 (3 + 10) 18) (by decide) (fz_X3_13 _) ?_
  have c18 := ci_put (k' := 13) (x := 101) 13 c17 rfl (l' := [0, 93, 94, 95, 0, 96, 0, 97, 0, 0, 98, 99, 100, 101, -1, -1, -1, -1]) rfl
  generalize jup m17 92 13 101 = m18 at c18 ⊢
  clear c17
  refine G_aloadn (pc := 77) dX3_init_77 rfl ?_
  refine G_bipush (pc := 78) dX3_init_78 (by decide +kernel) (by decide) ?_
  refine N_newI (pc := 80) (n := 64) (L := 102) (sh' := (SH.take 103)) dX3_init_80 rfl (Nat.le_of_ble_eq_true rfl) (by decide +kernel) (by decide +kernel) (by decide +kernel) (by decide +kernel) ?_
  have c19 := ci_z c18 (by decide +kernel) (by decide) (s' := 103) (by decide)
  generalize jn m18 102 zr = m19 at c19 ⊢
  clear c18
  refine G_putF (pc := 82) dX3_init_82 fl_X3_42 ff_X3_14 rfl rfl (⟨by decide, (by decide +kernel)⟩ : jat _ 92 (3 + 10) 18) (by decide) (fz_X3_14 _) ?_
  have c20 := ci_put (k' := 14) (x := 102) 14 c19 rfl (l' := [0, 93, 94, 95, 0, 96, 0, 97, 0, 0, 98, 99, 100, 101, 102, -1, -1, -1]) rfl
  generalize jup m19 92 14 102 = m20 at c20 ⊢
  clear c19
  refine G_aloadn (pc := 85) dX3_init_85 rfl ?_
  refine G_bipush (pc := 86) dX3_init_86 (by decide +kernel) (by decide) ?_
  refine N_newI (pc := 88) (n := 64) (L := 103) (sh' := (SH.take 104)) dX3_init_88 rfl (Nat.le_of_ble_eq_true rfl) (by decide +kernel) (by decide +kernel) (by decide +kernel) (by decide +kernel) ?_
  have c21 := ci_z c20 (by decide +kernel) (by decide) (s' := 104) (by decide)
  generalize jn m20 103 zr = m21 at c21 ⊢
  clear c20
  refine G_putF (pc := 90) dX3_init_90 fl_X3_45 ff_X3_15 rfl rfl (⟨by decide, (by decide +kernel)⟩ : jat _ 92 (3 + 10) 18) (by decide) (fz_X3_15 _) ?_
  have c22 := ci_put (k' := 15) (x := 103) 15 c21 rfl (l' := [0, 93, 94, 95, 0, 96, 0, 97, 0, 0, 98, 99, 100, 101, 102, 103, -1, -1]) rfl
  generalize jup m21 92 15 103 = m22 at c22 ⊢
  clear c21
  refine G_aloadn (pc := 93) dX3_init_93 rfl ?_
  refine G_bipush (pc := 94) dX3_init_94 (by decide +kernel) (by decide) ?_
  refine N_newI (pc := 96) (n := 64) (L := 104) (sh' := (SH.take 105)) dX3_init_96 rfl (Nat.le_of_ble_eq_true rfl) (by decide +kernel) (by decide +kernel) (by decide +kernel) (by decide +kernel) ?_
  have c23 := ci_z c22 (by decide +kernel) (by decide) (s' := 105) (by decide)
  generalize jn m22 104 zr = m23 at c23 ⊢
  clear c22
  refine G_putF (pc := 98) dX3_init_98 fl_X3_48 ff_X3_16 rfl rfl (⟨by decide, (by decide +kernel)⟩ : jat _ 92 (3 + 10) 18) (by decide) (fz_X3_16 _) ?_
  have c24 := ci_put (k' := 16) (x := 104) 16 c23 rfl (l' := [0, 93, 94, 95, 0, 96, 0, 97, 0, 0, 98, 99, 100, 101, 102, 103, 104, -1]) rfl
  generalize jup m23 92 16 104 = m24 at c24 ⊢
  clear c23
  refine G_aloadn (pc := 101) dX3_init_101 rfl ?_
  refine G_bipush (pc := 102) dX3_init_102 (by decide +kernel) (by decide) ?_
  refine N_newI (pc := 104) (n := 64) (L := 105) (sh' := (SH.take 106)) dX3_init_104 rfl (Nat.le_of_ble_eq_true rfl) (by decide +kernel) (by decide +kernel) (by decide +kernel) (by decide +kernel) ?_
  have c25 := ci_z c24 (by decide +kernel) (by decide) (s' := 106) (by decide)
  generalize jn m24 105 zr = m25 at c25 ⊢
  clear c24
  refine G_putF (pc := 106) dX3_init_106 fl_X3_51 ff_X3_17 rfl rfl (⟨by decide, (by decide +kernel)⟩ : jat _ 92 (3 + 10) 18) (by decide) (fz_X3_17 _) ?_
  have c26 := ci_put (k' := 17) (x := 105) 17 c25 rfl (l' := [0, 93, 94, 95, 0, 96, 0, 97, 0, 0, 98, 99, 100, 101, 102, 103, 104, 105]) rfl
  generalize jup m25 92 17 105 = m26 at c26 ⊢
  clear c25
  exact G_ret (pc := 109) (st := []) rfl dX3_init_109 rfl (hQ _ (ci_end c26 (by decide) (by decide +kernel) (Or.inl rfl) (by decide)))
theorem k_X2_106 {m : jM} {Q : Int → jM → Prop} (hm : rowIs (m 106) [0, 0, -1, 0, 0, 0, -1, -1, -1, -1, -1, -1, -1, -1, -1, -1, -1, -1]) (hQ : ∀ m', mdO 106 120 m m' → Q 0 m') : M iX2_init [(2, 106)] (SH.take 107) m Q := by
  refine N_intro (fs := (SH.take 120)) [(2, 106)] (by decide +kernel) (Nat.le_of_ble_eq_true rfl) rfl rfl (by decide +kernel) ?_
  have c0 := ci_0 (P := 106) (lo := 107) hm (by decide) (by decide)
  refine G_aloadn (pc := 0) dX2_init_0 rfl ?_
  refine G_obj (pc := 1) dX2_init_1 oi_X2 (by decide) (Nat.le_of_ble_eq_true rfl) ?_
  refine G_aloadn (pc := 4) dX2_init_4 rfl ?_
  refine G_iconst (pc := 5) dX2_init_5 (by decide) ?_
  refine N_newI (pc := 6) (n := 3) (L := 107) (sh' := (SH.take 108)) dX2_init_6 rfl (Nat.le_of_ble_eq_true rfl) (by decide +kernel) (by decide +kernel) (by decide +kernel) (by decide +kernel) ?_
  have c1 := ci_z c0 (by decide +kernel) (by decide) (s' := 108) (by decide)
  generalize jn m 107 zr = m1 at c1 ⊢
  clear c0
  refine G_putF (pc := 8) dX2_init_8 fl_X2_11 ff_X2_2 rfl rfl (⟨by decide, (by decide +kernel)⟩ : jat _ 106 (2 + 10) 18) (by decide) (fz_X2_2 _) ?_
  have c2 := ci_put (k' := 2) (x := 107) 2 c1 rfl (l' := [0, 0, 107, 0, 0, 0, -1, -1, -1, -1, -1, -1, -1, -1, -1, -1, -1, -1]) rfl
  generalize jup m1 106 2 107 = m2 at c2 ⊢
  clear c1
  refine G_aloadn (pc := 11) dX2_init_11 rfl ?_
  refine G_bipush (pc := 12) dX2_init_12 (by decide +kernel) (by decide) ?_
  refine N_newI (pc := 14) (n := 18) (L := 108) (sh' := (SH.take 109)) dX2_init_14 rfl (Nat.le_of_ble_eq_true rfl) (by decide +kernel) (by decide +kernel) (by decide +kernel) (by decide +kernel) ?_
  have c3 := ci_z c2 (by decide +kernel) (by decide) (s' := 109) (by decide)
  generalize jn m2 108 zr = m3 at c3 ⊢
  clear c2
  refine G_putF (pc := 16) dX2_init_16 fl_X2_15 ff_X2_6 rfl rfl (⟨by decide, (by decide +kernel)⟩ : jat _ 106 (2 + 10) 18) (by decide) (fz_X2_6 _) ?_
  have c4 := ci_put (k' := 6) (x := 108) 6 c3 rfl (l' := [0, 0, 107, 0, 0, 0, 108, -1, -1, -1, -1, -1, -1, -1, -1, -1, -1, -1]) rfl
  generalize jup m3 106 6 108 = m4 at c4 ⊢
  clear c3
  refine G_aloadn (pc := 19) dX2_init_19 rfl ?_
  refine G_bipush (pc := 20) dX2_init_20 (by decide +kernel) (by decide) ?_
  refine N_newI (pc := 22) (n := 18) (L := 109) (sh' := (SH.take 110)) dX2_init_22 rfl (Nat.le_of_ble_eq_true rfl) (by decide +kernel) (by decide +kernel) (by decide +kernel) (by decide +kernel) ?_
  have c5 := ci_z c4 (by decide +kernel) (by decide) (s' := 110) (by decide)
  generalize jn m4 109 zr = m5 at c5 ⊢
  clear c4
  refine G_putF (pc := 24) dX2_init_24 fl_X2_18 ff_X2_7 rfl rfl (⟨by decide, (by decide +kernel)⟩ : jat _ 106 (2 + 10) 18) (by decide) (fz_X2_7 _) ?_
  have c6 := ci_put (k' := 7) (x := 109) 7 c5 rfl (l' := [0, 0, 107, 0, 0, 0, 108, 109, -1, -1, -1, -1, -1, -1, -1, -1, -1, -1]) rfl
  generalize jup m5 106 7 109 = m6 at c6 ⊢
  clear c5
  refine G_aloadn (pc := 27) dX2_init_27 rfl ?_
  refine G_bipush (pc := 28) dX2_init_28 (by decide +kernel) (by decide) ?_
  refine N_newI (pc := 30) (n := 18) (L := 110) (sh' := (SH.take 111)) dX2_init_30 rfl (Nat.le_of_ble_eq_true rfl) (by decide +kernel) (by decide +kernel) (by decide +kernel) (by decide +kernel) ?_
  have c7 := ci_z c6 (by decide +kernel) (by decide) (s' := 111) (by decide)
  generalize jn m6 110 zr = m7 at c7 ⊢
  clear c6
  refine G_putF (pc := 32) dX2_init_32 fl_X2_21 ff_X2_8 rfl rfl (⟨by decide, (by decide +kernel)⟩ : jat _ 106 (2 + 10) 18) (by decide) (fz_X2_8 _) ?_
  have c8 := ci_put (k' := 8) (x := 110) 8 c7 rfl (l' := [0, 0, 107, 0, 0, 0, 108, 109, 110, -1, -1, -1, -1, -1, -1, -1, -1, -1]) rfl
  generalize jup m7 106 8 110 = m8 at c8 ⊢
  clear c7
  refine G_aloadn (pc := 35) dX2_init_35 rfl ?_
  refine G_iconst (pc := 36) dX2_init_36 (by decide) ?_
  refine N_newI (pc := 37) (n := 3) (L := 111) (sh' := (SH.take 112)) dX2_init_37 rfl (Nat.le_of_ble_eq_true rfl) (by decide +kernel) (by decide +kernel) (by decide +kernel) (by decide +kernel) ?_
  have c9 := ci_z c8 (by decide +kernel) (by decide) (s' := 112) (by decide)
  generalize jn m8 111 zr = m9 at c9 ⊢
  clear c8
  refine G_putF (pc := 39) dX2_init_39 fl_X2_24 ff_X2_9 rfl rfl (⟨by decide, (by decide +kernel)⟩ : jat _ 106 (2 + 10) 18) (by decide) (fz_X2_9 _) ?_
  have c10 := ci_put (k' := 9) (x := 111) 9 c9 rfl (l' := [0, 0, 107, 0, 0, 0, 108, 109, 110, 111, -1, -1, -1, -1, -1, -1, -1, -1]) rfl
  generalize jup m9 106 9 111 = m10 at c10 ⊢
  clear c9
  refine G_aloadn (pc := 42) dX2_init_42 rfl ?_
  refine G_iconst (pc := 43) dX2_init_43 (by decide) ?_
  refine N_newI (pc := 44) (n := 3) (L := 112) (sh' := (SH.take 113)) dX2_init_44 rfl (Nat.le_of_ble_eq_true rfl) (by decide +kernel) (by decide +kernel) (by decide +kernel) (by decide +kernel) ?_
  have c11 := ci_z c10 (by decide +kernel) (by decide) (s' := 113) (by decide)
  generalize jn m10 112 zr = m11 at c11 ⊢
  clear c10
  refine G_putF (pc := 46) dX2_init_46 fl_X2_27 ff_X2_10 rfl rfl (⟨by decide, (by decide +kernel)⟩ : jat _ 106 (2 + 10) 18) (by decide) (fz_X2_10 _) ?_
  have c12 := ci_put (k' := 10) (x := 112) 10 c11 rfl (l' := [0, 0, 107, 0, 0, 0, 108, 109, 110, 111, 112, -1, -1, -1, -1, -1, -1, -1]) rfl
  generalize jup m11 106 10 112 = m12 at c12 ⊢
  clear c11
  refine G_aloadn (pc := 49) dX2_init_49 rfl ?_
  refine G_iconst (pc := 50) dX2_init_50 (by decide) ?_
  refine N_newI (pc := 51) (n := 3) (L := 113) (sh' := (SH.take 114)) dX2_init_51 rfl (Nat.le_of_ble_eq_true rfl) (by decide +kernel) (by decide +kernel) (by decide +kernel) (by decide +kernel) ?_
  have c13 := ci_z c12 (by decide +kernel) (by decide) (s' := 114) (by decide)
  generalize jn m12 113 zr = m13 at c13 ⊢
  clear c12
  refine G_putF (pc := 53) dX2_init_53 fl_X2_30 ff_X2_11 rfl rfl (⟨by decide, (by decide +kernel)⟩ : jat _ 106 (2 + 10) 18) (by decide) (fz_X2_11 _) ?_
  have c14 := ci_put (k' := 11) (x := 113) 11 c13 rfl (l' := [0, 0, 107, 0, 0, 0, 108, 109, 110, 111, 112, 113, -1, -1, -1, -1, -1, -1]) rfl
  generalize jup m13 106 11 113 = m14 at c14 ⊢
  clear c13
  refine G_aloadn (pc := 56) dX2_init_56 rfl ?_
  refine G_sipush (pc := 57) dX2_init_57 (by decide +kernel) (by decide) ?_
  refine N_newI (pc := 60) (n := 486) (L := 114) (sh' := (SH.take 115)) dX2_init_60 rfl (Nat.le_of_ble_eq_true rfl) (by decide +kernel) (by decide +kernel) (by decide +kernel) (by decide +kernel) ?_
  have c15 := ci_z c14 (by decide +kernel) (by decide) (s' := 115) (by decide)
  generalize jn m14 114 zr = m15 at c15 ⊢
  clear c14
  refine G_putF (pc := 62) dX2_init_62 fl_X2_33 ff_X2_12 rfl rfl (⟨by decide, (by decide +kernel)⟩ : jat _ 106 (2 + 10) 18) (by decide) (fz_X2_12 _) ?_
  have c16 := ci_put (k' := 12) (x := 114) 12 c15 rfl (l' := [0, 0, 107, 0, 0, 0, 108, 109, 110, 111, 112, 113, 114, -1, -1, -1, -1, -1]) rfl
  generalize jup m15 106 12 114 = m16 at c16 ⊢
  clear c15
  refine G_aloadn (pc := 65) dX2_init_65 rfl ?_
  refine G_bipush (pc := 66) dX2_init_66 (by decide +kernel) (by decide) ?_
  refine N_newI (pc := 68) (n := 18) (L := 115) (sh' := (SH.take 116)) dX2_init_68 rfl (Nat.le_of_ble_eq_true rfl) (by decide +kernel) (by decide +kernel) (by decide +kernel) (by decide +kernel) ?_
  have c17 := ci_z c16 (by decide +kernel) (by decide) (s' := 116) (by decide)
  generalize jn m16 115 zr = m17 at c17 ⊢
  clear c16
  refine G_putF (pc := 70) dX2_init_70 fl_X2_36 ff_X2_13 rfl rfl (⟨by decide, (by decide +kernel)⟩ : jat _ 106 (2 + 10) 18) (by decide) (fz_X2_13 _) ?_
  have c18 := ci_put (k' := 13) (x := 115) 13 c17 rfl (l' := [0, 0, 107, 0, 0, 0, 108, 109, 110, 111, 112, 113, 114, 115, -1, -1, -1, -1]) rfl
  generalize jup m17 106 13 115 = m18 at c18 ⊢
  clear c17
  refine G_aloadn (pc := 73) dX2_init_73 rfl ?_
  refine G_bipush (pc := 74) dX2_init_74 (by decide +kernel) (by decide) ?_
  refine N_newI (pc := 76) (n := 18) (L := 116) (sh' := (SH.take 117)) dX2_init_76 rfl (Nat.le_of_ble_eq_true rfl) (by decide +kernel) (by decide +kernel) (by decide +kernel) (by decide +kernel) ?_
  have c19 := ci_z c18 (by decide +kernel) (by decide) (s' := 117) (by decide)
  generalize jn m18 116 zr = m19 at c19 ⊢
  clear c18
  refine G_putF (pc := 78) dX2_init_78 fl_X2_39 ff_X2_14 rfl rfl (⟨by decide, (by decide +kernel)⟩ : jat _ 106 (2 + 10) 18) (by decide) (fz_X2_14 _) ?_
  have c20 := ci_put (k' := 14) (x := 116) 14 c19 rfl (l' := [0, 0, 107, 0, 0, 0, 108, 109, 110, 111, 112, 113, 114, 115, 116, -1, -1, -1]) rfl
  generalize jup m19 106 14 116 = m20 at c20 ⊢
  clear c19
  refine G_aloadn (pc := 81) dX2_init_81 rfl ?_
  refine G_bipush (pc := 82) dX2_init_82 (by decide +kernel) (by decide) ?_
  refine N_newI (pc := 84) (n := 18) (L := 117) (sh' := (SH.take 118)) dX2_init_84 rfl (Nat.le_of_ble_eq_true rfl) (by decide +kernel) (by decide +kernel) (by decide +kernel) (by decide +kernel) ?_
  have c21 := ci_z c20 (by decide +kernel) (by decide) (s' := 118) (by decide)
  generalize jn m20 117 zr = m21 at c21 ⊢
  clear c20
  refine G_putF (pc := 86) dX2_init_86 fl_X2_42 ff_X2_15 rfl rfl (⟨by decide, (by decide +kernel)⟩ : jat _ 106 (2 + 10) 18) (by decide) (fz_X2_15 _) ?_
  have c22 := ci_put (k' := 15) (x := 117) 15 c21 rfl (l' := [0, 0, 107, 0, 0, 0, 108, 109, 110, 111, 112, 113, 114, 115, 116, 117, -1, -1]) rfl
  generalize jup m21 106 15 117 = m22 at c22 ⊢
  clear c21
  refine G_aloadn (pc := 89) dX2_init_89 rfl ?_
  refine G_bipush (pc := 90) dX2_init_90 (by decide +kernel) (by decide) ?_
  refine N_newI (pc := 92) (n := 18) (L := 118) (sh' := (SH.take 119)) dX2_init_92 rfl (Nat.le_of_ble_eq_true rfl) (by decide +kernel) (by decide +kernel) (by decide +kernel) (by decide +kernel) ?_
  have c23 := ci_z c22 (by decide +kernel) (by decide) (s' := 119) (by decide)
  generalize jn m22 118 zr = m23 at c23 ⊢
  clear c22
  refine G_putF (pc := 94) dX2_init_94 fl_X2_45 ff_X2_16 rfl rfl (⟨by decide, (by decide +kernel)⟩ : jat _ 106 (2 + 10) 18) (by decide) (fz_X2_16 _) ?_
  have c24 := ci_put (k' := 16) (x := 118) 16 c23 rfl (l' := [0, 0, 107, 0, 0, 0, 108, 109, 110, 111, 112, 113, 114, 115, 116, 117, 118, -1]) rfl
  generalize jup m23 106 16 118 = m24 at c24 ⊢
  clear c23
  refine G_aloadn (pc := 97) dX2_init_97 rfl ?_
  refine G_bipush (pc := 98) dX2_init_98 (by decide +kernel) (by decide) ?_
  refine N_newI (pc := 100) (n := 19) (L := 119) (sh' := (SH.take 120)) dX2_init_100 rfl (Nat.le_of_ble_eq_true rfl) (by decide +kernel) (by decide +kernel) (by decide +kernel) (by decide +kernel) ?_
  have c25 := ci_z c24 (by decide +kernel) (by decide) (s' := 120) (by decide)
  generalize jn m24 119 zr = m25 at c25 ⊢
  clear c24
  refine G_putF (pc := 102) dX2_init_102 fl_X2_48 ff_X2_17 rfl rfl (⟨by decide, (by decide +kernel)⟩ : jat _ 106 (2 + 10) 18) (by decide) (fz_X2_17 _) ?_
  have c26 := ci_put (k' := 17) (x := 119) 17 c25 rfl (l' := [0, 0, 107, 0, 0, 0, 108, 109, 110, 111, 112, 113, 114, 115, 116, 117, 118, 119]) rfl
  generalize jup m25 106 17 119 = m26 at c26 ⊢
  clear c25
  exact G_ret (pc := 105) (st := []) rfl dX2_init_105 rfl (hQ _ (ci_end c26 (by decide) (by decide +kernel) (Or.inl rfl) (by decide)))
theorem k_X9_11 {m : jM} {Q : Int → jM → Prop} (hm : rowIs (m 11) [-1, -1, -1, 0, 0, 0, 0, -1, -1, 0, -1, -1, -1, 0, -1]) (hu : m (-3) (-1) = 7) (hQ : ∀ m', mdO 11 63 m m' → Q 0 m') : M iX9_init [(2, 11)] (SH.take 12) m Q := by
  refine N_intro (fs := (SH.take 63)) [(2, 11), (9, 0)] (by decide +kernel) (Nat.le_of_ble_eq_true rfl) rfl rfl (by decide +kernel) ?_
  have c0 := ci_0 (P := 11) (lo := 12) hm (by decide) (by decide)
  refine G_aloadn (pc := 0) dX9_init_0 rfl ?_
  refine G_obj (pc := 1) dX9_init_1 oi_X9 (by decide) (Nat.le_of_ble_eq_true rfl) ?_
  refine G_aloadn (pc := 4) dX9_init_4 rfl ?_
  refine G_iconst (pc := 5) dX9_init_5 (by decide) ?_
  refine N_newR (pc := 6) (kd := 3) (n := 3) (L := 12) (sh' := (SH.take 13)) dX9_init_6 (Or.inl ⟨rfl, rfl⟩) nw_X9_9 rfl (Nat.le_of_ble_eq_true rfl) (by decide +kernel) (by decide +kernel) (by decide +kernel) (by decide +kernel) ?_
  have c1 := ci_o (f := m1r) (la := [-1, -1, -1]) c0 (by decide) (rowIs_all (by decide)) (s' := 13) (by decide)
  generalize jn m 12 m1r = m1 at c1 ⊢
  clear c0
  refine G_putF (pc := 9) dX9_init_9 fl_X9_11 ff_X9_0 rfl rfl (⟨by decide, (by decide +kernel)⟩ : jat _ 11 (9 + 10) 15) (by decide) (fz_X9_0 _) ?_
  have c2 := ci_put (k' := 0) (x := 12) 0 c1 rfl (l' := [12, -1, -1, 0, 0, 0, 0, -1, -1, 0, -1, -1, -1, 0, -1]) rfl
  generalize jup m1 11 0 12 = m2 at c2 ⊢
  clear c1
  refine G_aloadn (pc := 12) dX9_init_12 rfl ?_
  refine N_new (pc := 13) (ci := 1) (L := 13) (sh' := (SH.take 14)) dX9_init_13 rfl nw_X9_17 in_X1 wnX1 ok_X1 (by decide +kernel) (by decide +kernel) (by decide +kernel) (by decide +kernel) ?_
  refine G_dup (pc := 16) dX9_init_16 (by decide) ?_
  refine N_callI (pc := 17) [] [(2, 13), (2, 11)] dX9_init_17 ci_X9_19 rfl (Nat.le_of_ble_eq_true rfl) (by decide) rfl (Nat.le_of_ble_eq_true rfl) (sh' := (SH.take 21)) (by decide +kernel) (by decide +kernel) (by decide +kernel) rfl ?_
  refine k_X1_13 (by rw [jn_s]; exact df_X1) (fun m3 g => ?_)
  have c3 := ci_call c2 g (by decide)
  clear g c2
  refine G_putF (pc := 20) dX9_init_20 fl_X9_20 ff_X9_1 rfl rfl (⟨by decide, (by decide +kernel)⟩ : jat _ 11 (9 + 10) 15) (by decide) (fz_X9_1 _) ?_
  have c4 := ci_put (k' := 1) (x := 13) 1 c3 rfl (l' := [12, 13, -1, 0, 0, 0, 0, -1, -1, 0, -1, -1, -1, 0, -1]) rfl
  generalize jup m3 11 1 13 = m4 at c4 ⊢
  clear c3
  refine G_aloadn (pc := 23) dX9_init_23 rfl ?_
  refine G_bipush (pc := 24) dX9_init_24 (by decide +kernel) (by decide) ?_
  refine N_newI (pc := 26) (n := 20) (L := 21) (sh' := (SH.take 22)) dX9_init_26 rfl (Nat.le_of_ble_eq_true rfl) (by decide +kernel) (by decide +kernel) (by decide +kernel) (by decide +kernel) ?_
  have c5 := ci_z c4 (by decide +kernel) (by decide) (s' := 22) (by decide)
  generalize jn m4 21 zr = m5 at c5 ⊢
  clear c4
  refine G_putF (pc := 28) dX9_init_28 fl_X9_24 ff_X9_7 rfl rfl (⟨by decide, (by decide +kernel)⟩ : jat _ 11 (9 + 10) 15) (by decide) (fz_X9_7 _) ?_
  have c6 := ci_put (k' := 7) (x := 21) 7 c5 rfl (l' := [12, 13, -1, 0, 0, 0, 0, 21, -1, 0, -1, -1, -1, 0, -1]) rfl
  generalize jup m5 11 7 21 = m6 at c6 ⊢
  clear c5
  refine G_aloadn (pc := 31) dX9_init_31 rfl ?_
  refine G_bipush (pc := 32) dX9_init_32 (by decide +kernel) (by decide) ?_
  refine N_newI (pc := 34) (n := 20) (L := 22) (sh' := (SH.take 23)) dX9_init_34 rfl (Nat.le_of_ble_eq_true rfl) (by decide +kernel) (by decide +kernel) (by decide +kernel) (by decide +kernel) ?_
  have c7 := ci_z c6 (by decide +kernel) (by decide) (s' := 23) (by decide)
  generalize jn m6 22 zr = m7 at c7 ⊢
  clear c6
  refine G_putF (pc := 36) dX9_init_36 fl_X9_28 ff_X9_8 rfl rfl (⟨by decide, (by decide +kernel)⟩ : jat _ 11 (9 + 10) 15) (by decide) (fz_X9_8 _) ?_
  have c8 := ci_put (k' := 8) (x := 22) 8 c7 rfl (l' := [12, 13, -1, 0, 0, 0, 0, 21, 22, 0, -1, -1, -1, 0, -1]) rfl
  generalize jup m7 11 8 22 = m8 at c8 ⊢
  clear c7
  refine G_aloadn (pc := 39) dX9_init_39 rfl ?_
  refine G_iconst (pc := 40) dX9_init_40 (by decide) ?_
  refine N_newI (pc := 41) (n := 3) (L := 23) (sh' := (SH.take 24)) dX9_init_41 rfl (Nat.le_of_ble_eq_true rfl) (by decide +kernel) (by decide +kernel) (by decide +kernel) (by decide +kernel) ?_
  have c9 := ci_z c8 (by decide +kernel) (by decide) (s' := 24) (by decide)
  generalize jn m8 23 zr = m9 at c9 ⊢
  clear c8
  refine G_putF (pc := 43) dX9_init_43 fl_X9_31 ff_X9_10 rfl rfl (⟨by decide, (by decide +kernel)⟩ : jat _ 11 (9 + 10) 15) (by decide) (fz_X9_10 _) ?_
  have c10 := ci_put (k' := 10) (x := 23) 10 c9 rfl (l' := [12, 13, -1, 0, 0, 0, 0, 21, 22, 0, 23, -1, -1, 0, -1]) rfl
  generalize jup m9 11 10 23 = m10 at c10 ⊢
  clear c9
  refine G_aloadn (pc := 46) dX9_init_46 rfl ?_
  refine G_iconst (pc := 47) dX9_init_47 (by decide) ?_
  refine N_newI (pc := 48) (n := 3) (L := 24) (sh' := (SH.take 25)) dX9_init_48 rfl (Nat.le_of_ble_eq_true rfl) (by decide +kernel) (by decide +kernel) (by decide +kernel) (by decide +kernel) ?_
  have c11 := ci_z c10 (by decide +kernel) (by decide) (s' := 25) (by decide)
  generalize jn m10 24 zr = m11 at c11 ⊢
  clear c10
  refine G_putF (pc := 50) dX9_init_50 fl_X9_34 ff_X9_11 rfl rfl (⟨by decide, (by decide +kernel)⟩ : jat _ 11 (9 + 10) 15) (by decide) (fz_X9_11 _) ?_
  have c12 := ci_put (k' := 11) (x := 24) 11 c11 rfl (l' := [12, 13, -1, 0, 0, 0, 0, 21, 22, 0, 23, 24, -1, 0, -1]) rfl
  generalize jup m11 11 11 24 = m12 at c12 ⊢
  clear c11
  refine G_aloadn (pc := 53) dX9_init_53 rfl ?_
  refine G_sipush (pc := 54) dX9_init_54 (by decide +kernel) (by decide) ?_
  refine N_newI (pc := 57) (n := 432) (L := 25) (sh' := (SH.take 26)) dX9_init_57 rfl (Nat.le_of_ble_eq_true rfl) (by decide +kernel) (by decide +kernel) (by decide +kernel) (by decide +kernel) ?_
  have c13 := ci_z c12 (by decide +kernel) (by decide) (s' := 26) (by decide)
  generalize jn m12 25 zr = m13 at c13 ⊢
  clear c12
  refine G_putF (pc := 59) dX9_init_59 fl_X9_37 ff_X9_12 rfl rfl (⟨by decide, (by decide +kernel)⟩ : jat _ 11 (9 + 10) 15) (by decide) (fz_X9_12 _) ?_
  have c14 := ci_put (k' := 12) (x := 25) 12 c13 rfl (l' := [12, 13, -1, 0, 0, 0, 0, 21, 22, 0, 23, 24, 25, 0, -1]) rfl
  generalize jup m13 11 12 25 = m14 at c14 ⊢
  clear c13
  refine G_aloadn (pc := 62) dX9_init_62 rfl ?_
  refine G_iconst (pc := 63) dX9_init_63 (by decide) ?_
  refine N_newI (pc := 64) (n := 5) (L := 26) (sh' := (SH.take 27)) dX9_init_64 rfl (Nat.le_of_ble_eq_true rfl) (by decide +kernel) (by decide +kernel) (by decide +kernel) (by decide +kernel) ?_
  have c15 := ci_z c14 (by decide +kernel) (by decide) (s' := 27) (by decide)
  generalize jn m14 26 zr = m15 at c15 ⊢
  clear c14
  refine G_putF (pc := 66) dX9_init_66 fl_X9_40 ff_X9_14 rfl rfl (⟨by decide, (by decide +kernel)⟩ : jat _ 11 (9 + 10) 15) (by decide) (fz_X9_14 _) ?_
  have c16 := ci_put (k' := 14) (x := 26) 14 c15 rfl (l' := [12, 13, -1, 0, 0, 0, 0, 21, 22, 0, 23, 24, 25, 0, 26]) rfl
  generalize jup m15 11 14 26 = m16 at c16 ⊢
  clear c15
  refine G_iconst (pc := 69) dX9_init_69 (by decide) ?_
  refine G_istnE (pc := 70) [(2, 11), (0, 0)] dX9_init_70 (Nat.le_of_ble_eq_true rfl) rfl rfl ?_
  refine G_iloadn (pc := 71) dX9_init_71 rfl ?_
  refine G_aloadn (pc := 72) dX9_init_72 rfl ?_
  refine G_gete (pc := 73) dX9_init_73 fl_X9_11 (⟨by decide, (by decide +kernel)⟩ : jat _ 11 (9 + 10) 15) (by decide) (ci_at c16 0 12 rfl) ?_
  refine G_alene (pc := 76) (kd := 3) (n := 3) (x := 3) (by decide) (by decide) dX9_init_76 ⟨by decide, (by decide +kernel)⟩ rfl ?_
  refine G_icmp_ge (pc := 77) 99 dX9_init_77 rfl (fun c => absurd c (by decide)) (fun _ => ?_)
  refine G_aloadn (pc := 80) dX9_init_80 rfl ?_
  refine G_gete (pc := 81) dX9_init_81 fl_X9_11 (⟨by decide, (by decide +kernel)⟩ : jat _ 11 (9 + 10) 15) (by decide) (ci_at c16 0 12 rfl) ?_
  refine G_iloadn (pc := 84) dX9_init_84 rfl ?_
  refine N_new (pc := 85) (ci := 8) (L := 27) (sh' := (SH.take 28)) dX9_init_85 rfl nw_X9_9 in_X8 wnX8 ok_X8 (by decide +kernel) (by decide +kernel) (by decide +kernel) (by decide +kernel) ?_
  refine G_dup (pc := 88) dX9_init_88 (by decide) ?_
  refine N_callI (pc := 89) [] [(2, 27), (0, 0), (2, 12)] dX9_init_89 ci_X9_43 rfl (Nat.le_of_ble_eq_true rfl) (by decide) rfl (Nat.le_of_ble_eq_true rfl) (sh' := (SH.take 39)) (by decide +kernel) (by decide +kernel) (by decide +kernel) rfl ?_
  refine k_X8_27 (by rw [jn_s]; exact df_X8) (by rw [jn_ne (by decide), ci_neg c16 (by decide) (by decide)]; exact hu) (fun m17 g => ?_)
  have c17 := ci_call c16 g (by decide)
  clear g c16
  refine G_aast (pc := 92) (kd := 3) (n := 3) (ci := 8) (n2 := 19) (Or.inl ⟨rfl, rfl⟩) dX9_init_92 ⟨by decide, (by decide +kernel)⟩ ⟨by decide, (by decide +kernel)⟩ (by decide) (by decide) ?_
  have c18 := ci_putA (i' := 0) (x := 27) 0 c17 (by decide) rfl (la' := [27, -1, -1]) rfl
  generalize jup m17 12 0 27 = m18 at c18 ⊢
  clear c17
  refine G_iincE (pc := 93) [(2, 11), (0, 1)] dX9_init_93 rfl rfl (by decide) ?_
  refine G_goto (pc := 96) 71 dX9_init_96 rfl ?_
  refine G_iloadn (pc := 71) dX9_init_71 rfl ?_
  refine G_aloadn (pc := 72) dX9_init_72 rfl ?_
  refine G_gete (pc := 73) dX9_init_73 fl_X9_11 (⟨by decide, (by decide +kernel)⟩ : jat _ 11 (9 + 10) 15) (by decide) (ci_at c18 0 12 rfl) ?_
  refine G_alene (pc := 76) (kd := 3) (n := 3) (x := 3) (by decide) (by decide) dX9_init_76 ⟨by decide, (by decide +kernel)⟩ rfl ?_
  refine G_icmp_ge (pc := 77) 99 dX9_init_77 rfl (fun c => absurd c (by decide)) (fun _ => ?_)
  refine G_aloadn (pc := 80) dX9_init_80 rfl ?_
  refine G_gete (pc := 81) dX9_init_81 fl_X9_11 (⟨by decide, (by decide +kernel)⟩ : jat _ 11 (9 + 10) 15) (by decide) (ci_at c18 0 12 rfl) ?_
  refine G_iloadn (pc := 84) dX9_init_84 rfl ?_
  refine N_new (pc := 85) (ci := 8) (L := 39) (sh' := (SH.take 40)) dX9_init_85 rfl nw_X9_9 in_X8 wnX8 ok_X8 (by decide +kernel) (by decide +kernel) (by decide +kernel) (by decide +kernel) ?_
  refine G_dup (pc := 88) dX9_init_88 (by decide) ?_
  refine N_callI (pc := 89) [] [(2, 39), (0, 1), (2, 12)] dX9_init_89 ci_X9_43 rfl (Nat.le_of_ble_eq_true rfl) (by decide) rfl (Nat.le_of_ble_eq_true rfl) (sh' := (SH.take 51)) (by decide +kernel) (by decide +kernel) (by decide +kernel) rfl ?_
  refine k_X8_39 (by rw [jn_s]; exact df_X8) (by rw [jn_ne (by decide), ci_neg c18 (by decide) (by decide)]; exact hu) (fun m19 g => ?_)
  have c19 := ci_call c18 g (by decide)
  clear g c18
  refine G_aast (pc := 92) (kd := 3) (n := 3) (ci := 8) (n2 := 19) (Or.inl ⟨rfl, rfl⟩) dX9_init_92 ⟨by decide, (by decide +kernel)⟩ ⟨by decide, (by decide +kernel)⟩ (by decide) (by decide) ?_
  have c20 := ci_putA (i' := 1) (x := 39) 1 c19 (by decide) rfl (la' := [27, 39, -1]) rfl
  generalize jup m19 12 1 39 = m20 at c20 ⊢
  clear c19
  refine G_iincE (pc := 93) [(2, 11), (0, 2)] dX9_init_93 rfl rfl (by decide) ?_
  refine G_goto (pc := 96) 71 dX9_init_96 rfl ?_
  refine G_iloadn (pc := 71) dX9_init_71 rfl ?_
  refine G_aloadn (pc := 72) dX9_init_72 rfl ?_
  refine G_gete (pc := 73) dX9_init_73 fl_X9_11 (⟨by decide, (by decide +kernel)⟩ : jat _ 11 (9 + 10) 15) (by decide) (ci_at c20 0 12 rfl) ?_
  refine G_alene (pc := 76) (kd := 3) (n := 3) (x := 3) (by decide) (by decide) dX9_init_76 ⟨by decide, (by decide +kernel)⟩ rfl ?_
  refine G_icmp_ge (pc := 77) 99 dX9_init_77 rfl (fun c => absurd c (by decide)) (fun _ => ?_)
  refine G_aloadn (pc := 80) dX9_init_80 rfl ?_
  refine G_gete (pc := 81) dX9_init_81 fl_X9_11 (⟨by decide, (by decide +kernel)⟩ : jat _ 11 (9 + 10) 15) (by decide) (ci_at c20 0 12 rfl) ?_
  refine G_iloadn (pc := 84) dX9_init_84 rfl ?_
  refine N_new (pc := 85) (ci := 8) (L := 51) (sh' := (SH.take 52)) dX9_init_85 rfl nw_X9_9 in_X8 wnX8 ok_X8 (by decide +kernel) (by decide +kernel) (by decide +kernel) (by decide +kernel) ?_
  refine G_dup (pc := 88) dX9_init_88 (by decide) ?_
  refine N_callI (pc := 89) [] [(2, 51), (0, 2), (2, 12)] dX9_init_89 ci_X9_43 rfl (Nat.le_of_ble_eq_true rfl) (by decide) rfl (Nat.le_of_ble_eq_true rfl) (sh' := (SH.take 63)) (by decide +kernel) (by decide +kernel) (by decide +kernel) rfl ?_
  refine k_X8_51 (by rw [jn_s]; exact df_X8) (by rw [jn_ne (by decide), ci_neg c20 (by decide) (by decide)]; exact hu) (fun m21 g => ?_)
  have c21 := ci_call c20 g (by decide)
  clear g c20
  refine G_aast (pc := 92) (kd := 3) (n := 3) (ci := 8) (n2 := 19) (Or.inl ⟨rfl, rfl⟩) dX9_init_92 ⟨by decide, (by decide +kernel)⟩ ⟨by decide, (by decide +kernel)⟩ (by decide) (by decide) ?_
  have c22 := ci_putA (i' := 2) (x := 51) 2 c21 (by decide) rfl (la' := [27, 39, 51]) rfl
  generalize jup m21 12 2 51 = m22 at c22 ⊢
  clear c21
  refine G_iincE (pc := 93) [(2, 11), (0, 3)] dX9_init_93 rfl rfl (by decide) ?_
  refine G_goto (pc := 96) 71 dX9_init_96 rfl ?_
  refine G_iloadn (pc := 71) dX9_init_71 rfl ?_
  refine G_aloadn (pc := 72) dX9_init_72 rfl ?_
  refine G_gete (pc := 73) dX9_init_73 fl_X9_11 (⟨by decide, (by decide +kernel)⟩ : jat _ 11 (9 + 10) 15) (by decide) (ci_at c22 0 12 rfl) ?_
  refine G_alene (pc := 76) (kd := 3) (n := 3) (x := 3) (by decide) (by decide) dX9_init_76 ⟨by decide, (by decide +kernel)⟩ rfl ?_
  refine G_icmp_ge (pc := 77) 99 dX9_init_77 rfl (fun _ => ?_) (fun c => absurd (by decide) c)
  refine G_aloadn (pc := 99) dX9_init_99 rfl ?_
  refine G_aloadn (pc := 100) dX9_init_100 rfl ?_
  refine G_gete (pc := 101) dX9_init_101 fl_X9_11 (⟨by decide, (by decide +kernel)⟩ : jat _ 11 (9 + 10) 15) (by decide) (ci_at c22 0 12 rfl) ?_
  refine G_iconst (pc := 104) dX9_init_104 (by decide) ?_
  refine G_aalde (pc := 105) (kd := 3) (n := 3) (Or.inl rfl) dX9_init_105 ⟨by decide, (by decide +kernel)⟩ (by decide) (by decide) (ci_atA c22 (by decide) 0 27 rfl) ?_
  refine G_putL (pc := 106) dX9_init_106 fl_X9_44 ff_X9_2 fz_X9_2 (⟨by decide, (by decide +kernel)⟩ : jat _ 11 (9 + 10) 15) (by decide) ?_
  have c23 := ci_put (k' := 2) (x := 27) 2 c22 rfl (l' := [12, 13, 27, 0, 0, 0, 0, 21, 22, 0, 23, 24, 25, 0, 26]) rfl
  generalize jup m22 11 2 27 = m23 at c23 ⊢
  clear c22
  refine G_aloadn (pc := 109) dX9_init_109 rfl ?_
  refine G_iconst (pc := 110) dX9_init_110 (by decide) ?_
  refine G_putL (pc := 111) dX9_init_111 fl_X9_48 ff_X9_9 fz_X9_9 (⟨by decide, (by decide +kernel)⟩ : jat _ 11 (9 + 10) 15) (by decide) ?_
  have c24 := ci_put (k' := 9) (x := -1) 9 c23 rfl (l' := [12, 13, 27, 0, 0, 0, 0, 21, 22, -1, 23, 24, 25, 0, 26]) rfl
  generalize jup m23 11 9 (-1) = m24 at c24 ⊢
  clear c23
  exact G_ret (pc := 114) (st := []) rfl dX9_init_114 rfl (hQ _ (ci_end c24 (by decide) (by decide +kernel) (Or.inr (by decide +kernel)) (by decide)))

/-! the class's constructor (written by a program) -/
theorem k_X4_1 {m : jM} {Q : Int → jM → Prop} (hm : rowIs (m 1) [0, 0, -1, 0, 0, 0, -1, -1, 0, -1, 0, 0, 0, 0, 0]) (hQ : ∀ m', mdO 1 11 m m' → Q 0 m') : M iX4_init [(2, 1)] (SH.take 2) m Q := by
  refine N_intro (fs := (SH.take 11)) [(2, 1)] (by decide +kernel) (Nat.le_of_ble_eq_true rfl) rfl rfl (by decide +kernel) ?_
  have c0 := ci_0 (P := 1) (lo := 2) hm (by decide) (by decide)
  refine G_aloadn (pc := 0) dX4_init_0 rfl ?_
  refine G_obj (pc := 1) dX4_init_1 oi_X4 (by decide) (Nat.le_of_ble_eq_true rfl) ?_
  refine G_aloadn (pc := 4) dX4_init_4 rfl ?_
  refine N_new (pc := 5) (ci := 6) (L := 2) (sh' := (SH.take 3)) dX4_init_5 rfl nw_X4_9 in_X6 wnX6 ok_X6 (by decide +kernel) (by decide +kernel) (by decide +kernel) (by decide +kernel) ?_
  refine G_dup (pc := 8) dX4_init_8 (by decide) ?_
  refine N_callI (pc := 9) [] [(2, 2), (2, 1)] dX4_init_9 ci_X4_11 rfl (Nat.le_of_ble_eq_true rfl) (by decide) rfl (Nat.le_of_ble_eq_true rfl) (sh' := (SH.take 8)) (by decide +kernel) (by decide +kernel) (by decide +kernel) rfl ?_
  refine k_X6_2 (by rw [jn_s]; exact df_X6) (fun m1 g => ?_)
  have c1 := ci_call c0 g (by decide)
  clear g c0
  refine G_putF (pc := 12) dX4_init_12 fl_X4_12 ff_X4_2 rfl rfl (⟨by decide, (by decide +kernel)⟩ : jat _ 1 (4 + 10) 15) (by decide) (fz_X4_2 _) ?_
  have c2 := ci_put (k' := 2) (x := 2) 2 c1 rfl (l' := [0, 0, 2, 0, 0, 0, -1, -1, 0, -1, 0, 0, 0, 0, 0]) rfl
  generalize jup m1 1 2 2 = m2 at c2 ⊢
  clear c1
  refine G_aloadn (pc := 15) dX4_init_15 rfl ?_
  refine G_bipush (pc := 16) dX4_init_16 (by decide +kernel) (by decide) ?_
  refine N_newL (pc := 18) (n := 21) (L := 8) (sh' := (SH.take 9)) dX4_init_18 rfl (Nat.le_of_ble_eq_true rfl) (by decide +kernel) (by decide +kernel) (by decide +kernel) (by decide +kernel) ?_
  have c3 := ci_z c2 (by decide +kernel) (by decide) (s' := 9) (by decide)
  generalize jn m2 8 zr = m3 at c3 ⊢
  clear c2
  refine G_putF (pc := 20) dX4_init_20 fl_X4_18 ff_X4_6 rfl rfl (⟨by decide, (by decide +kernel)⟩ : jat _ 1 (4 + 10) 15) (by decide) (fz_X4_6 _) ?_
  have c4 := ci_put (k' := 6) (x := 8) 6 c3 rfl (l' := [0, 0, 2, 0, 0, 0, 8, -1, 0, -1, 0, 0, 0, 0, 0]) rfl
  generalize jup m3 1 6 8 = m4 at c4 ⊢
  clear c3
  refine G_aloadn (pc := 23) dX4_init_23 rfl ?_
  refine G_bipush (pc := 24) dX4_init_24 (by decide +kernel) (by decide) ?_
  refine N_newI (pc := 26) (n := 21) (L := 9) (sh' := (SH.take 10)) dX4_init_26 rfl (Nat.le_of_ble_eq_true rfl) (by decide +kernel) (by decide +kernel) (by decide +kernel) (by decide +kernel) ?_
  have c5 := ci_z c4 (by decide +kernel) (by decide) (s' := 10) (by decide)
  generalize jn m4 9 zr = m5 at c5 ⊢
  clear c4
  refine G_putF (pc := 28) dX4_init_28 fl_X4_22 ff_X4_7 rfl rfl (⟨by decide, (by decide +kernel)⟩ : jat _ 1 (4 + 10) 15) (by decide) (fz_X4_7 _) ?_
  have c6 := ci_put (k' := 7) (x := 9) 7 c5 rfl (l' := [0, 0, 2, 0, 0, 0, 8, 9, 0, -1, 0, 0, 0, 0, 0]) rfl
  generalize jup m5 1 7 9 = m6 at c6 ⊢
  clear c5
  refine G_aloadn (pc := 31) dX4_init_31 rfl ?_
  refine G_sipush (pc := 32) dX4_init_32 (by decide +kernel) (by decide) ?_
  refine N_newI (pc := 35) (n := 400) (L := 10) (sh' := (SH.take 11)) dX4_init_35 rfl (Nat.le_of_ble_eq_true rfl) (by decide +kernel) (by decide +kernel) (by decide +kernel) (by decide +kernel) ?_
  have c7 := ci_z c6 (by decide +kernel) (by decide) (s' := 11) (by decide)
  generalize jn m6 10 zr = m7 at c7 ⊢
  clear c6
  refine G_putF (pc := 37) dX4_init_37 fl_X4_26 ff_X4_9 rfl rfl (⟨by decide, (by decide +kernel)⟩ : jat _ 1 (4 + 10) 15) (by decide) (fz_X4_9 _) ?_
  have c8 := ci_put (k' := 9) (x := 10) 9 c7 rfl (l' := [0, 0, 2, 0, 0, 0, 8, 9, 0, 10, 0, 0, 0, 0, 0]) rfl
  generalize jup m7 1 9 10 = m8 at c8 ⊢
  clear c7
  exact G_ret (pc := 40) (st := []) rfl dX4_init_40 rfl (hQ _ (ci_end c8 (by decide) (by decide +kernel) (Or.inl rfl) (by decide)))
theorem k_X10_0 {m : jM} {Q : Int → jM → Prop} (hm : rowIs (m 0) [-1, -1, -1, -1, -1, -1, -1, -1, -1, -1, 0, 0, 0, 0]) (hu : m (-3) (-1) = 7) (hQ : ∀ m', mdO 0 139 m m' → Q 0 m') : M iX10_init [(2, 0)] (SH.take 1) m Q := by
  refine N_intro (fs := (SH.take 139)) [(2, 0), (9, 0)] (by decide +kernel) (Nat.le_of_ble_eq_true rfl) rfl rfl (by decide +kernel) ?_
  have c0 := ci_0 (P := 0) (lo := 1) hm (by decide) (by decide)
  refine G_aloadn (pc := 0) dX10_init_0 rfl ?_
  refine G_obj (pc := 1) dX10_init_1 oi_X10 (by decide) (Nat.le_of_ble_eq_true rfl) ?_
  refine G_aloadn (pc := 4) dX10_init_4 rfl ?_
  refine N_new (pc := 5) (ci := 4) (L := 1) (sh' := (SH.take 2)) dX10_init_5 rfl nw_X10_7 in_X4 wnX4 ok_X4 (by decide +kernel) (by decide +kernel) (by decide +kernel) (by decide +kernel) ?_
  refine G_dup (pc := 8) dX10_init_8 (by decide) ?_
  refine N_callI (pc := 9) [] [(2, 1), (2, 0)] dX10_init_9 ci_X10_9 rfl (Nat.le_of_ble_eq_true rfl) (by decide) rfl (Nat.le_of_ble_eq_true rfl) (sh' := (SH.take 11)) (by decide +kernel) (by decide +kernel) (by decide +kernel) rfl ?_
  refine k_X4_1 (by rw [jn_s]; exact df_X4) (fun m1 g => ?_)
  have c1 := ci_call c0 g (by decide)
  clear g c0
  refine G_putF (pc := 12) dX10_init_12 fl_X10_10 ff_X10_0 rfl rfl (⟨by decide, (by decide +kernel)⟩ : jat _ 0 (10 + 10) 14) (by decide) (fz_X10_0 _) ?_
  have c2 := ci_put (k' := 0) (x := 1) 0 c1 rfl (l' := [1, -1, -1, -1, -1, -1, -1, -1, -1, -1, 0, 0, 0, 0]) rfl
  generalize jup m1 0 0 1 = m2 at c2 ⊢
  clear c1
  refine G_aloadn (pc := 15) dX10_init_15 rfl ?_
  refine G_aloadn (pc := 16) dX10_init_16 rfl ?_
  refine G_gete (pc := 17) dX10_init_17 fl_X10_10 (⟨by decide, (by decide +kernel)⟩ : jat _ 0 (10 + 10) 14) (by decide) (ci_at c2 0 1 rfl) ?_
  refine G_gete (pc := 20) dX10_init_20 fl_X10_16 (⟨by decide, (by decide +kernel)⟩ : jat _ 1 (4 + 10) 15) (by decide) (ci_row c2 (by decide) (by decide) (by decide) (lq := [0, 0, 2, 0, 0, 0, 8, 9, 0, 10, 0, 0, 0, 0, 0]) (by decide +kernel) 2 2 rfl) ?_
  refine G_putF (pc := 23) dX10_init_23 fl_X10_20 ff_X10_1 rfl rfl (⟨by decide, (by decide +kernel)⟩ : jat _ 0 (10 + 10) 14) (by decide) (fz_X10_1 _) ?_
  have c3 := ci_put (k' := 1) (x := 2) 1 c2 rfl (l' := [1, 2, -1, -1, -1, -1, -1, -1, -1, -1, 0, 0, 0, 0]) rfl
  generalize jup m2 0 1 2 = m3 at c3 ⊢
  clear c2
  refine G_aloadn (pc := 26) dX10_init_26 rfl ?_
  refine N_new (pc := 27) (ci := 9) (L := 11) (sh' := (SH.take 12)) dX10_init_27 rfl nw_X10_21 in_X9 wnX9 ok_X9 (by decide +kernel) (by decide +kernel) (by decide +kernel) (by decide +kernel) ?_
  refine G_dup (pc := 30) dX10_init_30 (by decide) ?_
  refine N_callI (pc := 31) [] [(2, 11), (2, 0)] dX10_init_31 ci_X10_23 rfl (Nat.le_of_ble_eq_true rfl) (by decide) rfl (Nat.le_of_ble_eq_true rfl) (sh' := (SH.take 63)) (by decide +kernel) (by decide +kernel) (by decide +kernel) rfl ?_
  refine k_X9_11 (by rw [jn_s]; exact df_X9) (by rw [jn_ne (by decide), ci_neg c3 (by decide) (by decide)]; exact hu) (fun m4 g => ?_)
  have c4 := ci_call c3 g (by decide)
  clear g c3
  refine G_putF (pc := 34) dX10_init_34 fl_X10_24 ff_X10_2 rfl rfl (⟨by decide, (by decide +kernel)⟩ : jat _ 0 (10 + 10) 14) (by decide) (fz_X10_2 _) ?_
  have c5 := ci_put (k' := 2) (x := 11) 2 c4 rfl (l' := [1, 2, 11, -1, -1, -1, -1, -1, -1, -1, 0, 0, 0, 0]) rfl
  generalize jup m4 0 2 11 = m5 at c5 ⊢
  clear c4
  refine G_aloadn (pc := 37) dX10_init_37 rfl ?_
  refine G_aloadn (pc := 38) dX10_init_38 rfl ?_
  refine G_gete (pc := 39) dX10_init_39 fl_X10_24 (⟨by decide, (by decide +kernel)⟩ : jat _ 0 (10 + 10) 14) (by decide) (ci_at c5 2 11 rfl) ?_
  refine G_gete (pc := 42) dX10_init_42 fl_X10_28 (⟨by decide, (by decide +kernel)⟩ : jat _ 11 (9 + 10) 15) (by decide) (ci_row c5 (by decide) (by decide) (by decide) (lq := [12, 13, 27, 0, 0, 0, 0, 21, 22, -1, 23, 24, 25, 0, 26]) (by decide +kernel) 0 12 rfl) ?_
  refine G_putF (pc := 45) dX10_init_45 fl_X10_32 ff_X10_3 rfl rfl (⟨by decide, (by decide +kernel)⟩ : jat _ 0 (10 + 10) 14) (by decide) (fz_X10_3 _) ?_
  have c6 := ci_put (k' := 3) (x := 12) 3 c5 rfl (l' := [1, 2, 11, 12, -1, -1, -1, -1, -1, -1, 0, 0, 0, 0]) rfl
  generalize jup m5 0 3 12 = m6 at c6 ⊢
  clear c5
  refine G_aloadn (pc := 48) dX10_init_48 rfl ?_
  refine G_aloadn (pc := 49) dX10_init_49 rfl ?_
  refine G_gete (pc := 50) dX10_init_50 fl_X10_24 (⟨by decide, (by decide +kernel)⟩ : jat _ 0 (10 + 10) 14) (by decide) (ci_at c6 2 11 rfl) ?_
  refine G_gete (pc := 53) dX10_init_53 fl_X10_33 (⟨by decide, (by decide +kernel)⟩ : jat _ 11 (9 + 10) 15) (by decide) (ci_row c6 (by decide) (by decide) (by decide) (lq := [12, 13, 27, 0, 0, 0, 0, 21, 22, -1, 23, 24, 25, 0, 26]) (by decide +kernel) 1 13 rfl) ?_
  refine G_putF (pc := 56) dX10_init_56 fl_X10_37 ff_X10_4 rfl rfl (⟨by decide, (by decide +kernel)⟩ : jat _ 0 (10 + 10) 14) (by decide) (fz_X10_4 _) ?_
  have c7 := ci_put (k' := 4) (x := 13) 4 c6 rfl (l' := [1, 2, 11, 12, 13, -1, -1, -1, -1, -1, 0, 0, 0, 0]) rfl
  generalize jup m6 0 4 13 = m7 at c7 ⊢
  clear c6
  refine G_aloadn (pc := 59) dX10_init_59 rfl ?_
  refine G_iconst (pc := 60) dX10_init_60 (by decide) ?_
  refine N_newR (pc := 61) (kd := 4) (n := 3) (L := 63) (sh' := (SH.take 64)) dX10_init_61 (Or.inr ⟨rfl, rfl⟩) nw_X10_38 rfl (Nat.le_of_ble_eq_true rfl) (by decide +kernel) (by decide +kernel) (by decide +kernel) (by decide +kernel) ?_
  have c8 := ci_o (f := m1r) (la := [-1, -1, -1]) c7 (by decide) (rowIs_all (by decide)) (s' := 64) (by decide)
  generalize jn m7 63 m1r = m8 at c8 ⊢
  clear c7
  refine G_putF (pc := 64) dX10_init_64 fl_X10_40 ff_X10_5 rfl rfl (⟨by decide, (by decide +kernel)⟩ : jat _ 0 (10 + 10) 14) (by decide) (fz_X10_5 _) ?_
  have c9 := ci_put (k' := 5) (x := 63) 5 c8 rfl (l' := [1, 2, 11, 12, 13, 63, -1, -1, -1, -1, 0, 0, 0, 0]) rfl
  generalize jup m8 0 5 63 = m9 at c9 ⊢
  clear c8
  refine G_iconst (pc := 67) dX10_init_67 (by decide) ?_
  refine G_istnE (pc := 68) [(2, 0), (0, 0)] dX10_init_68 (Nat.le_of_ble_eq_true rfl) rfl rfl ?_
  refine G_iloadn (pc := 69) dX10_init_69 rfl ?_
  refine G_aloadn (pc := 70) dX10_init_70 rfl ?_
  refine G_gete (pc := 71) dX10_init_71 fl_X10_40 (⟨by decide, (by decide +kernel)⟩ : jat _ 0 (10 + 10) 14) (by decide) (ci_at c9 5 63 rfl) ?_
  refine G_alene (pc := 74) (kd := 4) (n := 3) (x := 3) (by decide) (by decide) dX10_init_74 ⟨by decide, (by decide +kernel)⟩ rfl ?_
  refine G_icmp_ge (pc := 75) 97 dX10_init_75 rfl (fun c => absurd c (by decide)) (fun _ => ?_)
  refine G_aloadn (pc := 78) dX10_init_78 rfl ?_
  refine G_gete (pc := 79) dX10_init_79 fl_X10_40 (⟨by decide, (by decide +kernel)⟩ : jat _ 0 (10 + 10) 14) (by decide) (ci_at c9 5 63 rfl) ?_
  refine G_iloadn (pc := 82) dX10_init_82 rfl ?_
  refine N_new (pc := 83) (ci := 3) (L := 64) (sh' := (SH.take 65)) dX10_init_83 rfl nw_X10_38 in_X3 wnX3 ok_X3 (by decide +kernel) (by decide +kernel) (by decide +kernel) (by decide +kernel) ?_
  refine G_dup (pc := 86) dX10_init_86 (by decide) ?_
  refine N_callI (pc := 87) [] [(2, 64), (0, 0), (2, 63)] dX10_init_87 ci_X10_44 rfl (Nat.le_of_ble_eq_true rfl) (by decide) rfl (Nat.le_of_ble_eq_true rfl) (sh' := (SH.take 78)) (by decide +kernel) (by decide +kernel) (by decide +kernel) rfl ?_
  refine k_X3_64 (by rw [jn_s]; exact df_X3) (fun m10 g => ?_)
  have c10 := ci_call c9 g (by decide)
  clear g c9
  refine G_aast (pc := 90) (kd := 4) (n := 3) (ci := 3) (n2 := 18) (Or.inr ⟨rfl, rfl⟩) dX10_init_90 ⟨by decide, (by decide +kernel)⟩ ⟨by decide, (by decide +kernel)⟩ (by decide) (by decide) ?_
  have c11 := ci_putA (i' := 0) (x := 64) 0 c10 (by decide) rfl (la' := [64, -1, -1]) rfl
  generalize jup m10 63 0 64 = m11 at c11 ⊢
  clear c10
  refine G_iincE (pc := 91) [(2, 0), (0, 1)] dX10_init_91 rfl rfl (by decide) ?_
  refine G_goto (pc := 94) 69 dX10_init_94 rfl ?_
  refine G_iloadn (pc := 69) dX10_init_69 rfl ?_
  refine G_aloadn (pc := 70) dX10_init_70 rfl ?_
  refine G_gete (pc := 71) dX10_init_71 fl_X10_40 (⟨by decide, (by decide +kernel)⟩ : jat _ 0 (10 + 10) 14) (by decide) (ci_at c11 5 63 rfl) ?_
  refine G_alene (pc := 74) (kd := 4) (n := 3) (x := 3) (by decide) (by decide) dX10_init_74 ⟨by decide, (by decide +kernel)⟩ rfl ?_
  refine G_icmp_ge (pc := 75) 97 dX10_init_75 rfl (fun c => absurd c (by decide)) (fun _ => ?_)
  refine G_aloadn (pc := 78) dX10_init_78 rfl ?_
  refine G_gete (pc := 79) dX10_init_79 fl_X10_40 (⟨by decide, (by decide +kernel)⟩ : jat _ 0 (10 + 10) 14) (by decide) (ci_at c11 5 63 rfl) ?_
  refine G_iloadn (pc := 82) dX10_init_82 rfl ?_
  refine N_new (pc := 83) (ci := 3) (L := 78) (sh' := (SH.take 79)) dX10_init_83 rfl nw_X10_38 in_X3 wnX3 ok_X3 (by decide +kernel) (by decide +kernel) (by decide +kernel) (by decide +kernel) ?_
  refine G_dup (pc := 86) dX10_init_86 (by decide) ?_
  refine N_callI (pc := 87) [] [(2, 78), (0, 1), (2, 63)] dX10_init_87 ci_X10_44 rfl (Nat.le_of_ble_eq_true rfl) (by decide) rfl (Nat.le_of_ble_eq_true rfl) (sh' := (SH.take 92)) (by decide +kernel) (by decide +kernel) (by decide +kernel) rfl ?_
  refine k_X3_78 (by rw [jn_s]; exact df_X3) (fun m12 g => ?_)
  have c12 := ci_call c11 g (by decide)
  clear g c11
  refine G_aast (pc := 90) (kd := 4) (n := 3) (ci := 3) (n2 := 18) (Or.inr ⟨rfl, rfl⟩) dX10_init_90 ⟨by decide, (by decide +kernel)⟩ ⟨by decide, (by decide +kernel)⟩ (by decide) (by decide) ?_
  have c13 := ci_putA (i' := 1) (x := 78) 1 c12 (by decide) rfl (la' := [64, 78, -1]) rfl
  generalize jup m12 63 1 78 = m13 at c13 ⊢
  clear c12
  refine G_iincE (pc := 91) [(2, 0), (0, 2)] dX10_init_91 rfl rfl (by decide) ?_
  refine G_goto (pc := 94) 69 dX10_init_94 rfl ?_
  refine G_iloadn (pc := 69) dX10_init_69 rfl ?_
  refine G_aloadn (pc := 70) dX10_init_70 rfl ?_
  refine G_gete (pc := 71) dX10_init_71 fl_X10_40 (⟨by decide, (by decide +kernel)⟩ : jat _ 0 (10 + 10) 14) (by decide) (ci_at c13 5 63 rfl) ?_
  refine G_alene (pc := 74) (kd := 4) (n := 3) (x := 3) (by decide) (by decide) dX10_init_74 ⟨by decide, (by decide +kernel)⟩ rfl ?_
  refine G_icmp_ge (pc := 75) 97 dX10_init_75 rfl (fun c => absurd c (by decide)) (fun _ => ?_)
  refine G_aloadn (pc := 78) dX10_init_78 rfl ?_
  refine G_gete (pc := 79) dX10_init_79 fl_X10_40 (⟨by decide, (by decide +kernel)⟩ : jat _ 0 (10 + 10) 14) (by decide) (ci_at c13 5 63 rfl) ?_
  refine G_iloadn (pc := 82) dX10_init_82 rfl ?_
  refine N_new (pc := 83) (ci := 3) (L := 92) (sh' := (SH.take 93)) dX10_init_83 rfl nw_X10_38 in_X3 wnX3 ok_X3 (by decide +kernel) (by decide +kernel) (by decide +kernel) (by decide +kernel) ?_
  refine G_dup (pc := 86) dX10_init_86 (by decide) ?_
  refine N_callI (pc := 87) [] [(2, 92), (0, 2), (2, 63)] dX10_init_87 ci_X10_44 rfl (Nat.le_of_ble_eq_true rfl) (by decide) rfl (Nat.le_of_ble_eq_true rfl) (sh' := (SH.take 106)) (by decide +kernel) (by decide +kernel) (by decide +kernel) rfl ?_
  refine k_X3_92 (by rw [jn_s]; exact df_X3) (fun m14 g => ?_)
  have c14 := ci_call c13 g (by decide)
  clear g c13
  refine G_aast (pc := 90) (kd := 4) (n := 3) (ci := 3) (n2 := 18) (Or.inr ⟨rfl, rfl⟩) dX10_init_90 ⟨by decide, (by decide +kernel)⟩ ⟨by decide, (by decide +kernel)⟩ (by decide) (by decide) ?_
  have c15 := ci_putA (i' := 2) (x := 92) 2 c14 (by decide) rfl (la' := [64, 78, 92]) rfl
  generalize jup m14 63 2 92 = m15 at c15 ⊢
  clear c14
  refine G_iincE (pc := 91) [(2, 0), (0, 3)] dX10_init_91 rfl rfl (by decide) ?_
  refine G_goto (pc := 94) 69 dX10_init_94 rfl ?_
  refine G_iloadn (pc := 69) dX10_init_69 rfl ?_
  refine G_aloadn (pc := 70) dX10_init_70 rfl ?_
  refine G_gete (pc := 71) dX10_init_71 fl_X10_40 (⟨by decide, (by decide +kernel)⟩ : jat _ 0 (10 + 10) 14) (by decide) (ci_at c15 5 63 rfl) ?_
  refine G_alene (pc := 74) (kd := 4) (n := 3) (x := 3) (by decide) (by decide) dX10_init_74 ⟨by decide, (by decide +kernel)⟩ rfl ?_
  refine G_icmp_ge (pc := 75) 97 dX10_init_75 rfl (fun _ => ?_) (fun c => absurd (by decide) c)
  refine G_aloadn (pc := 97) dX10_init_97 rfl ?_
  refine N_new (pc := 98) (ci := 2) (L := 106) (sh' := (SH.take 107)) dX10_init_98 rfl nw_X10_45 in_X2 wnX2 ok_X2 (by decide +kernel) (by decide +kernel) (by decide +kernel) (by decide +kernel) ?_
  refine G_dup (pc := 101) dX10_init_101 (by decide) ?_
  refine N_callI (pc := 102) [] [(2, 106), (2, 0)] dX10_init_102 ci_X10_47 rfl (Nat.le_of_ble_eq_true rfl) (by decide) rfl (Nat.le_of_ble_eq_true rfl) (sh' := (SH.take 120)) (by decide +kernel) (by decide +kernel) (by decide +kernel) rfl ?_
  refine k_X2_106 (by rw [jn_s]; exact df_X2) (fun m16 g => ?_)
  have c16 := ci_call c15 g (by decide)
  clear g c15
  refine G_putF (pc := 105) dX10_init_105 fl_X10_48 ff_X10_6 rfl rfl (⟨by decide, (by decide +kernel)⟩ : jat _ 0 (10 + 10) 14) (by decide) (fz_X10_6 _) ?_
  have c17 := ci_put (k' := 6) (x := 106) 6 c16 rfl (l' := [1, 2, 11, 12, 13, 63, 106, -1, -1, -1, 0, 0, 0, 0]) rfl
  generalize jup m16 0 6 106 = m17 at c17 ⊢
  clear c16
  refine G_aloadn (pc := 108) dX10_init_108 rfl ?_
  refine N_new (pc := 109) (ci := 7) (L := 120) (sh' := (SH.take 121)) dX10_init_109 rfl nw_X10_52 in_X7 wnX7 ok_X7 (by decide +kernel) (by decide +kernel) (by decide +kernel) (by decide +kernel) ?_
  refine G_dup (pc := 112) dX10_init_112 (by decide) ?_
  refine N_callI (pc := 113) [] [(2, 120), (2, 0)] dX10_init_113 ci_X10_54 rfl (Nat.le_of_ble_eq_true rfl) (by decide) rfl (Nat.le_of_ble_eq_true rfl) (sh' := (SH.take 127)) (by decide +kernel) (by decide +kernel) (by decide +kernel) rfl ?_
  refine k_X7_120 (by rw [jn_s]; exact df_X7) (fun m18 g => ?_)
  have c18 := ci_call c17 g (by decide)
  clear g c17
  refine G_putF (pc := 116) dX10_init_116 fl_X10_55 ff_X10_7 rfl rfl (⟨by decide, (by decide +kernel)⟩ : jat _ 0 (10 + 10) 14) (by decide) (fz_X10_7 _) ?_
  have c19 := ci_put (k' := 7) (x := 120) 7 c18 rfl (l' := [1, 2, 11, 12, 13, 63, 106, 120, -1, -1, 0, 0, 0, 0]) rfl
  generalize jup m18 0 7 120 = m19 at c19 ⊢
  clear c18
  refine G_aloadn (pc := 119) dX10_init_119 rfl ?_
  refine N_new (pc := 120) (ci := 0) (L := 127) (sh' := (SH.take 128)) dX10_init_120 rfl nw_X10_59 in_X0 wnX0 ok_X0 (by decide +kernel) (by decide +kernel) (by decide +kernel) (by decide +kernel) ?_
  refine G_dup (pc := 123) dX10_init_123 (by decide) ?_
  refine N_callI (pc := 124) [] [(2, 127), (2, 0)] dX10_init_124 ci_X10_61 rfl (Nat.le_of_ble_eq_true rfl) (by decide) rfl (Nat.le_of_ble_eq_true rfl) (sh' := (SH.take 133)) (by decide +kernel) (by decide +kernel) (by decide +kernel) rfl ?_
  refine k_X0_127 (by rw [jn_s]; exact df_X0) (fun m20 g => ?_)
  have c20 := ci_call c19 g (by decide)
  clear g c19
  refine G_putF (pc := 127) dX10_init_127 fl_X10_62 ff_X10_8 rfl rfl (⟨by decide, (by decide +kernel)⟩ : jat _ 0 (10 + 10) 14) (by decide) (fz_X10_8 _) ?_
  have c21 := ci_put (k' := 8) (x := 127) 8 c20 rfl (l' := [1, 2, 11, 12, 13, 63, 106, 120, 127, -1, 0, 0, 0, 0]) rfl
  generalize jup m20 0 8 127 = m21 at c21 ⊢
  clear c20
  refine G_aloadn (pc := 130) dX10_init_130 rfl ?_
  refine N_new (pc := 131) (ci := 5) (L := 133) (sh' := (SH.take 134)) dX10_init_131 rfl nw_X10_66 in_X5 wnX5 ok_X5 (by decide +kernel) (by decide +kernel) (by decide +kernel) (by decide +kernel) ?_
  refine G_dup (pc := 134) dX10_init_134 (by decide) ?_
  refine N_callI (pc := 135) [] [(2, 133), (2, 0)] dX10_init_135 ci_X10_68 rfl (Nat.le_of_ble_eq_true rfl) (by decide) rfl (Nat.le_of_ble_eq_true rfl) (sh' := (SH.take 139)) (by decide +kernel) (by decide +kernel) (by decide +kernel) rfl ?_
  refine k_X5_133 (by rw [jn_s]; exact df_X5) (fun m22 g => ?_)
  have c22 := ci_call c21 g (by decide)
  clear g c21
  refine G_putF (pc := 138) dX10_init_138 fl_X10_69 ff_X10_9 rfl rfl (⟨by decide, (by decide +kernel)⟩ : jat _ 0 (10 + 10) 14) (by decide) (fz_X10_9 _) ?_
  have c23 := ci_put (k' := 9) (x := 133) 9 c22 rfl (l' := [1, 2, 11, 12, 13, 63, 106, 120, 127, 133, 0, 0, 0, 0]) rfl
  generalize jup m22 0 9 133 = m23 at c23 ⊢
  clear c22
  refine G_aloadn (pc := 141) dX10_init_141 rfl ?_
  refine G_iconst (pc := 142) dX10_init_142 (by decide) ?_
  refine G_putL (pc := 143) dX10_init_143 fl_X10_73 ff_X10_11 fz_X10_11 (⟨by decide, (by decide +kernel)⟩ : jat _ 0 (10 + 10) 14) (by decide) ?_
  have c24 := ci_put (k' := 11) (x := -1) 11 c23 rfl (l' := [1, 2, 11, 12, 13, 63, 106, 120, 127, 133, 0, -1, 0, 0]) rfl
  generalize jup m23 0 11 (-1) = m24 at c24 ⊢
  clear c23
  exact G_ret (pc := 146) (st := []) rfl dX10_init_146 rfl (hQ _ (ci_end c24 (by decide) (by decide +kernel) (Or.inr (by decide +kernel)) (by decide)))

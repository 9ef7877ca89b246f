/-! the reference's constructor (written by a program) -/
theorem k_X11_139 {m : jM} {Q : Int → jM → Prop} (hm : rowIs (m 139) [0, -1, 0, -1, -1, -1, -1, 0, 0, 0, 0, 0, 0, 0, -1, -1, -1, -1, -1, -1, -1, -1, -1, -1, -1, -1, -1, -1, -1, -1, -1, -1, -1, -1, -1, -1, -1, -1, -1, -1, -1, 0, -1, -1, 0, -1, -1, -1, -1, -1, 0, -1, 0, -1, -1, -1, 0, -1, -1, -1, 0, -1, -1, -1, 0, 0, -1, 0, 0, 0, -1, -1, -1, -1, -1, 0, -1, -1, -1, -1, -1, -1, -1, -1, -1, -1, 0, -1, 0, 0, -1, -1, -1, -1, -1, -1, -1, -1, -1, -1, -1, -1, 0, 0, 0]) (hQ : ∀ m', mdO 139 218 m m' → Q 0 m') : M iX11_init [(2, 139)] (SH.take 140) m Q := by
  refine N_intro (fs := (SH.take 218)) [(2, 139), (9, 0)] (by decide +kernel) (Nat.le_of_ble_eq_true rfl) rfl rfl (by decide +kernel) ?_
  have c0 := ci_0 (P := 139) (lo := 140) hm (by decide) (by decide)
  refine G_aloadn (pc := 0) dX11_init_0 rfl ?_
  refine G_obj (pc := 1) dX11_init_1 oi_X11 (by decide) (Nat.le_of_ble_eq_true rfl) ?_
  refine G_aloadn (pc := 4) dX11_init_4 rfl ?_
  refine G_sipush (pc := 5) dX11_init_5 (by decide +kernel) (by decide) ?_
  refine N_newI (pc := 8) (n := 2000) (L := 140) (sh' := (SH.take 141)) dX11_init_8 rfl (Nat.le_of_ble_eq_true rfl) (by decide +kernel) (by decide +kernel) (by decide +kernel) (by decide +kernel) ?_
  have c1 := ci_z c0 (by decide +kernel) (by decide) (s' := 141) (by decide)
  generalize jn m 140 zr = m1 at c1 ⊢
  clear c0
  refine G_putF (pc := 10) dX11_init_10 fl_X11_7 ff_X11_1 rfl rfl (⟨by decide, (by decide +kernel)⟩ : jat _ 139 (11 + 10) 105) (by decide) (fz_X11_1 _) ?_
  have c2 := ci_put (k' := 1) (x := 140) 1 c1 rfl (l' := [0, 140, 0, -1, -1, -1, -1, 0, 0, 0, 0, 0, 0, 0, -1, -1, -1, -1, -1, -1, -1, -1, -1, -1, -1, -1, -1, -1, -1, -1, -1, -1, -1, -1, -1, -1, -1, -1, -1, -1, -1, 0, -1, -1, 0, -1, -1, -1, -1, -1, 0, -1, 0, -1, -1, -1, 0, -1, -1, -1, 0, -1, -1, -1, 0, 0, -1, 0, 0, 0, -1, -1, -1, -1, -1, 0, -1, -1, -1, -1, -1, -1, -1, -1, -1, -1, 0, -1, 0, 0, -1, -1, -1, -1, -1, -1, -1, -1, -1, -1, -1, -1, 0, 0, 0]) rfl
  generalize jup m1 139 1 140 = m2 at c2 ⊢
  clear c1
  refine G_aloadn (pc := 13) dX11_init_13 rfl ?_
  refine G_sipush (pc := 14) dX11_init_14 (by decide +kernel) (by decide) ?_
  refine N_newI (pc := 17) (n := 2001) (L := 141) (sh' := (SH.take 142)) dX11_init_17 rfl (Nat.le_of_ble_eq_true rfl) (by decide +kernel) (by decide +kernel) (by decide +kernel) (by decide +kernel) ?_
  have c3 := ci_z c2 (by decide +kernel) (by decide) (s' := 142) (by decide)
  generalize jn m2 141 zr = m3 at c3 ⊢
  clear c2
  refine G_putF (pc := 19) dX11_init_19 fl_X11_13 ff_X11_3 rfl rfl (⟨by decide, (by decide +kernel)⟩ : jat _ 139 (11 + 10) 105) (by decide) (fz_X11_3 _) ?_
  have c4 := ci_put (k' := 3) (x := 141) 3 c3 rfl (l' := [0, 140, 0, 141, -1, -1, -1, 0, 0, 0, 0, 0, 0, 0, -1, -1, -1, -1, -1, -1, -1, -1, -1, -1, -1, -1, -1, -1, -1, -1, -1, -1, -1, -1, -1, -1, -1, -1, -1, -1, -1, 0, -1, -1, 0, -1, -1, -1, -1, -1, 0, -1, 0, -1, -1, -1, 0, -1, -1, -1, 0, -1, -1, -1, 0, 0, -1, 0, 0, 0, -1, -1, -1, -1, -1, 0, -1, -1, -1, -1, -1, -1, -1, -1, -1, -1, 0, -1, 0, 0, -1, -1, -1, -1, -1, -1, -1, -1, -1, -1, -1, -1, 0, 0, 0]) rfl
  generalize jup m3 139 3 141 = m4 at c4 ⊢
  clear c3
  refine G_aloadn (pc := 22) dX11_init_22 rfl ?_
  refine G_sipush (pc := 23) dX11_init_23 (by decide +kernel) (by decide) ?_
  refine N_newI (pc := 26) (n := 2001) (L := 142) (sh' := (SH.take 143)) dX11_init_26 rfl (Nat.le_of_ble_eq_true rfl) (by decide +kernel) (by decide +kernel) (by decide +kernel) (by decide +kernel) ?_
  have c5 := ci_z c4 (by decide +kernel) (by decide) (s' := 143) (by decide)
  generalize jn m4 142 zr = m5 at c5 ⊢
  clear c4
  refine G_putF (pc := 28) dX11_init_28 fl_X11_16 ff_X11_4 rfl rfl (⟨by decide, (by decide +kernel)⟩ : jat _ 139 (11 + 10) 105) (by decide) (fz_X11_4 _) ?_
  have c6 := ci_put (k' := 4) (x := 142) 4 c5 rfl (l' := [0, 140, 0, 141, 142, -1, -1, 0, 0, 0, 0, 0, 0, 0, -1, -1, -1, -1, -1, -1, -1, -1, -1, -1, -1, -1, -1, -1, -1, -1, -1, -1, -1, -1, -1, -1, -1, -1, -1, -1, -1, 0, -1, -1, 0, -1, -1, -1, -1, -1, 0, -1, 0, -1, -1, -1, 0, -1, -1, -1, 0, -1, -1, -1, 0, 0, -1, 0, 0, 0, -1, -1, -1, -1, -1, 0, -1, -1, -1, -1, -1, -1, -1, -1, -1, -1, 0, -1, 0, 0, -1, -1, -1, -1, -1, -1, -1, -1, -1, -1, -1, -1, 0, 0, 0]) rfl
  generalize jup m5 139 4 142 = m6 at c6 ⊢
  clear c5
  refine G_aloadn (pc := 31) dX11_init_31 rfl ?_
  refine G_sipush (pc := 32) dX11_init_32 (by decide +kernel) (by decide) ?_
  refine N_newI (pc := 35) (n := 2001) (L := 143) (sh' := (SH.take 144)) dX11_init_35 rfl (Nat.le_of_ble_eq_true rfl) (by decide +kernel) (by decide +kernel) (by decide +kernel) (by decide +kernel) ?_
  have c7 := ci_z c6 (by decide +kernel) (by decide) (s' := 144) (by decide)
  generalize jn m6 143 zr = m7 at c7 ⊢
  clear c6
  refine G_putF (pc := 37) dX11_init_37 fl_X11_19 ff_X11_5 rfl rfl (⟨by decide, (by decide +kernel)⟩ : jat _ 139 (11 + 10) 105) (by decide) (fz_X11_5 _) ?_
  have c8 := ci_put (k' := 5) (x := 143) 5 c7 rfl (l' := [0, 140, 0, 141, 142, 143, -1, 0, 0, 0, 0, 0, 0, 0, -1, -1, -1, -1, -1, -1, -1, -1, -1, -1, -1, -1, -1, -1, -1, -1, -1, -1, -1, -1, -1, -1, -1, -1, -1, -1, -1, 0, -1, -1, 0, -1, -1, -1, -1, -1, 0, -1, 0, -1, -1, -1, 0, -1, -1, -1, 0, -1, -1, -1, 0, 0, -1, 0, 0, 0, -1, -1, -1, -1, -1, 0, -1, -1, -1, -1, -1, -1, -1, -1, -1, -1, 0, -1, 0, 0, -1, -1, -1, -1, -1, -1, -1, -1, -1, -1, -1, -1, 0, 0, 0]) rfl
  generalize jup m7 139 5 143 = m8 at c8 ⊢
  clear c7
  refine G_aloadn (pc := 40) dX11_init_40 rfl ?_
  refine G_sipush (pc := 41) dX11_init_41 (by decide +kernel) (by decide) ?_
  refine N_newL (pc := 44) (n := 2001) (L := 144) (sh' := (SH.take 145)) dX11_init_44 rfl (Nat.le_of_ble_eq_true rfl) (by decide +kernel) (by decide +kernel) (by decide +kernel) (by decide +kernel) ?_
  have c9 := ci_z c8 (by decide +kernel) (by decide) (s' := 145) (by decide)
  generalize jn m8 144 zr = m9 at c9 ⊢
  clear c8
  refine G_putF (pc := 46) dX11_init_46 fl_X11_22 ff_X11_6 rfl rfl (⟨by decide, (by decide +kernel)⟩ : jat _ 139 (11 + 10) 105) (by decide) (fz_X11_6 _) ?_
  have c10 := ci_put (k' := 6) (x := 144) 6 c9 rfl (l' := [0, 140, 0, 141, 142, 143, 144, 0, 0, 0, 0, 0, 0, 0, -1, -1, -1, -1, -1, -1, -1, -1, -1, -1, -1, -1, -1, -1, -1, -1, -1, -1, -1, -1, -1, -1, -1, -1, -1, -1, -1, 0, -1, -1, 0, -1, -1, -1, -1, -1, 0, -1, 0, -1, -1, -1, 0, -1, -1, -1, 0, -1, -1, -1, 0, 0, -1, 0, 0, 0, -1, -1, -1, -1, -1, 0, -1, -1, -1, -1, -1, -1, -1, -1, -1, -1, 0, -1, 0, 0, -1, -1, -1, -1, -1, -1, -1, -1, -1, -1, -1, -1, 0, 0, 0]) rfl
  generalize jup m9 139 6 144 = m10 at c10 ⊢
  clear c9
  refine G_aloadn (pc := 49) dX11_init_49 rfl ?_
  refine G_iconst (pc := 50) dX11_init_50 (by decide) ?_
  refine G_putL (pc := 51) dX11_init_51 fl_X11_26 ff_X11_9 fz_X11_9 (⟨by decide, (by decide +kernel)⟩ : jat _ 139 (11 + 10) 105) (by decide) ?_
  have c11 := ci_put (k' := 9) (x := -1) 9 c10 rfl (l' := [0, 140, 0, 141, 142, 143, 144, 0, 0, -1, 0, 0, 0, 0, -1, -1, -1, -1, -1, -1, -1, -1, -1, -1, -1, -1, -1, -1, -1, -1, -1, -1, -1, -1, -1, -1, -1, -1, -1, -1, -1, 0, -1, -1, 0, -1, -1, -1, -1, -1, 0, -1, 0, -1, -1, -1, 0, -1, -1, -1, 0, -1, -1, -1, 0, 0, -1, 0, 0, 0, -1, -1, -1, -1, -1, 0, -1, -1, -1, -1, -1, -1, -1, -1, -1, -1, 0, -1, 0, 0, -1, -1, -1, -1, -1, -1, -1, -1, -1, -1, -1, -1, 0, 0, 0]) rfl
  generalize jup m10 139 9 (-1) = m11 at c11 ⊢
  clear c10
  refine G_aloadn (pc := 54) dX11_init_54 rfl ?_
  refine G_iconst (pc := 55) dX11_init_55 (by decide) ?_
  refine N_newI (pc := 56) (n := 3) (L := 145) (sh' := (SH.take 146)) dX11_init_56 rfl (Nat.le_of_ble_eq_true rfl) (by decide +kernel) (by decide +kernel) (by decide +kernel) (by decide +kernel) ?_
  have c12 := ci_z c11 (by decide +kernel) (by decide) (s' := 146) (by decide)
  generalize jn m11 145 zr = m12 at c12 ⊢
  clear c11
  refine G_putF (pc := 58) dX11_init_58 fl_X11_30 ff_X11_14 rfl rfl (⟨by decide, (by decide +kernel)⟩ : jat _ 139 (11 + 10) 105) (by decide) (fz_X11_14 _) ?_
  have c13 := ci_put (k' := 14) (x := 145) 14 c12 rfl (l' := [0, 140, 0, 141, 142, 143, 144, 0, 0, -1, 0, 0, 0, 0, 145, -1, -1, -1, -1, -1, -1, -1, -1, -1, -1, -1, -1, -1, -1, -1, -1, -1, -1, -1, -1, -1, -1, -1, -1, -1, -1, 0, -1, -1, 0, -1, -1, -1, -1, -1, 0, -1, 0, -1, -1, -1, 0, -1, -1, -1, 0, -1, -1, -1, 0, 0, -1, 0, 0, 0, -1, -1, -1, -1, -1, 0, -1, -1, -1, -1, -1, -1, -1, -1, -1, -1, 0, -1, 0, 0, -1, -1, -1, -1, -1, -1, -1, -1, -1, -1, -1, -1, 0, 0, 0]) rfl
  generalize jup m12 139 14 145 = m13 at c13 ⊢
  clear c12
  refine G_aloadn (pc := 61) dX11_init_61 rfl ?_
  refine G_bipush (pc := 62) dX11_init_62 (by decide +kernel) (by decide) ?_
  refine N_newI (pc := 64) (n := 21) (L := 146) (sh' := (SH.take 147)) dX11_init_64 rfl (Nat.le_of_ble_eq_true rfl) (by decide +kernel) (by decide +kernel) (by decide +kernel) (by decide +kernel) ?_
  have c14 := ci_z c13 (by decide +kernel) (by decide) (s' := 147) (by decide)
  generalize jn m13 146 zr = m14 at c14 ⊢
  clear c13
  refine G_putF (pc := 66) dX11_init_66 fl_X11_33 ff_X11_15 rfl rfl (⟨by decide, (by decide +kernel)⟩ : jat _ 139 (11 + 10) 105) (by decide) (fz_X11_15 _) ?_
  have c15 := ci_put (k' := 15) (x := 146) 15 c14 rfl (l' := [0, 140, 0, 141, 142, 143, 144, 0, 0, -1, 0, 0, 0, 0, 145, 146, -1, -1, -1, -1, -1, -1, -1, -1, -1, -1, -1, -1, -1, -1, -1, -1, -1, -1, -1, -1, -1, -1, -1, -1, -1, 0, -1, -1, 0, -1, -1, -1, -1, -1, 0, -1, 0, -1, -1, -1, 0, -1, -1, -1, 0, -1, -1, -1, 0, 0, -1, 0, 0, 0, -1, -1, -1, -1, -1, 0, -1, -1, -1, -1, -1, -1, -1, -1, -1, -1, 0, -1, 0, 0, -1, -1, -1, -1, -1, -1, -1, -1, -1, -1, -1, -1, 0, 0, 0]) rfl
  generalize jup m14 139 15 146 = m15 at c15 ⊢
  clear c14
  refine G_aloadn (pc := 69) dX11_init_69 rfl ?_
  refine G_iconst (pc := 70) dX11_init_70 (by decide) ?_
  refine N_newI (pc := 71) (n := 3) (L := 147) (sh' := (SH.take 148)) dX11_init_71 rfl (Nat.le_of_ble_eq_true rfl) (by decide +kernel) (by decide +kernel) (by decide +kernel) (by decide +kernel) ?_
  have c16 := ci_z c15 (by decide +kernel) (by decide) (s' := 148) (by decide)
  generalize jn m15 147 zr = m16 at c16 ⊢
  clear c15
  refine G_putF (pc := 73) dX11_init_73 fl_X11_36 ff_X11_16 rfl rfl (⟨by decide, (by decide +kernel)⟩ : jat _ 139 (11 + 10) 105) (by decide) (fz_X11_16 _) ?_
  have c17 := ci_put (k' := 16) (x := 147) 16 c16 rfl (l' := [0, 140, 0, 141, 142, 143, 144, 0, 0, -1, 0, 0, 0, 0, 145, 146, 147, -1, -1, -1, -1, -1, -1, -1, -1, -1, -1, -1, -1, -1, -1, -1, -1, -1, -1, -1, -1, -1, -1, -1, -1, 0, -1, -1, 0, -1, -1, -1, -1, -1, 0, -1, 0, -1, -1, -1, 0, -1, -1, -1, 0, -1, -1, -1, 0, 0, -1, 0, 0, 0, -1, -1, -1, -1, -1, 0, -1, -1, -1, -1, -1, -1, -1, -1, -1, -1, 0, -1, 0, 0, -1, -1, -1, -1, -1, -1, -1, -1, -1, -1, -1, -1, 0, 0, 0]) rfl
  generalize jup m16 139 16 147 = m17 at c17 ⊢
  clear c16
  refine G_aloadn (pc := 76) dX11_init_76 rfl ?_
  refine G_iconst (pc := 77) dX11_init_77 (by decide) ?_
  refine N_newI (pc := 78) (n := 3) (L := 148) (sh' := (SH.take 149)) dX11_init_78 rfl (Nat.le_of_ble_eq_true rfl) (by decide +kernel) (by decide +kernel) (by decide +kernel) (by decide +kernel) ?_
  have c18 := ci_z c17 (by decide +kernel) (by decide) (s' := 149) (by decide)
  generalize jn m17 148 zr = m18 at c18 ⊢
  clear c17
  refine G_putF (pc := 80) dX11_init_80 fl_X11_39 ff_X11_17 rfl rfl (⟨by decide, (by decide +kernel)⟩ : jat _ 139 (11 + 10) 105) (by decide) (fz_X11_17 _) ?_
  have c19 := ci_put (k' := 17) (x := 148) 17 c18 rfl (l' := [0, 140, 0, 141, 142, 143, 144, 0, 0, -1, 0, 0, 0, 0, 145, 146, 147, 148, -1, -1, -1, -1, -1, -1, -1, -1, -1, -1, -1, -1, -1, -1, -1, -1, -1, -1, -1, -1, -1, -1, -1, 0, -1, -1, 0, -1, -1, -1, -1, -1, 0, -1, 0, -1, -1, -1, 0, -1, -1, -1, 0, -1, -1, -1, 0, 0, -1, 0, 0, 0, -1, -1, -1, -1, -1, 0, -1, -1, -1, -1, -1, -1, -1, -1, -1, -1, 0, -1, 0, 0, -1, -1, -1, -1, -1, -1, -1, -1, -1, -1, -1, -1, 0, 0, 0]) rfl
  generalize jup m18 139 17 148 = m19 at c19 ⊢
  clear c18
  refine G_aloadn (pc := 83) dX11_init_83 rfl ?_
  refine G_bipush (pc := 84) dX11_init_84 (by decide +kernel) (by decide) ?_
  refine N_newI (pc := 86) (n := 72) (L := 149) (sh' := (SH.take 150)) dX11_init_86 rfl (Nat.le_of_ble_eq_true rfl) (by decide +kernel) (by decide +kernel) (by decide +kernel) (by decide +kernel) ?_
  have c20 := ci_z c19 (by decide +kernel) (by decide) (s' := 150) (by decide)
  generalize jn m19 149 zr = m20 at c20 ⊢
  clear c19
  refine G_putF (pc := 88) dX11_init_88 fl_X11_42 ff_X11_18 rfl rfl (⟨by decide, (by decide +kernel)⟩ : jat _ 139 (11 + 10) 105) (by decide) (fz_X11_18 _) ?_
  have c21 := ci_put (k' := 18) (x := 149) 18 c20 rfl (l' := [0, 140, 0, 141, 142, 143, 144, 0, 0, -1, 0, 0, 0, 0, 145, 146, 147, 148, 149, -1, -1, -1, -1, -1, -1, -1, -1, -1, -1, -1, -1, -1, -1, -1, -1, -1, -1, -1, -1, -1, -1, 0, -1, -1, 0, -1, -1, -1, -1, -1, 0, -1, 0, -1, -1, -1, 0, -1, -1, -1, 0, -1, -1, -1, 0, 0, -1, 0, 0, 0, -1, -1, -1, -1, -1, 0, -1, -1, -1, -1, -1, -1, -1, -1, -1, -1, 0, -1, 0, 0, -1, -1, -1, -1, -1, -1, -1, -1, -1, -1, -1, -1, 0, 0, 0]) rfl
  generalize jup m20 139 18 149 = m21 at c21 ⊢
  clear c20
  refine G_aloadn (pc := 91) dX11_init_91 rfl ?_
  refine G_bipush (pc := 92) dX11_init_92 (by decide +kernel) (by decide) ?_
  refine N_newI (pc := 94) (n := 72) (L := 150) (sh' := (SH.take 151)) dX11_init_94 rfl (Nat.le_of_ble_eq_true rfl) (by decide +kernel) (by decide +kernel) (by decide +kernel) (by decide +kernel) ?_
  have c22 := ci_z c21 (by decide +kernel) (by decide) (s' := 151) (by decide)
  generalize jn m21 150 zr = m22 at c22 ⊢
  clear c21
  refine G_putF (pc := 96) dX11_init_96 fl_X11_45 ff_X11_19 rfl rfl (⟨by decide, (by decide +kernel)⟩ : jat _ 139 (11 + 10) 105) (by decide) (fz_X11_19 _) ?_
  have c23 := ci_put (k' := 19) (x := 150) 19 c22 rfl (l' := [0, 140, 0, 141, 142, 143, 144, 0, 0, -1, 0, 0, 0, 0, 145, 146, 147, 148, 149, 150, -1, -1, -1, -1, -1, -1, -1, -1, -1, -1, -1, -1, -1, -1, -1, -1, -1, -1, -1, -1, -1, 0, -1, -1, 0, -1, -1, -1, -1, -1, 0, -1, 0, -1, -1, -1, 0, -1, -1, -1, 0, -1, -1, -1, 0, 0, -1, 0, 0, 0, -1, -1, -1, -1, -1, 0, -1, -1, -1, -1, -1, -1, -1, -1, -1, -1, 0, -1, 0, 0, -1, -1, -1, -1, -1, -1, -1, -1, -1, -1, -1, -1, 0, 0, 0]) rfl
  generalize jup m22 139 19 150 = m23 at c23 ⊢
  clear c22
  refine G_aloadn (pc := 99) dX11_init_99 rfl ?_
  refine G_bipush (pc := 100) dX11_init_100 (by decide +kernel) (by decide) ?_
  refine N_newI (pc := 102) (n := 72) (L := 151) (sh' := (SH.take 152)) dX11_init_102 rfl (Nat.le_of_ble_eq_true rfl) (by decide +kernel) (by decide +kernel) (by decide +kernel) (by decide +kernel) ?_
  have c24 := ci_z c23 (by decide +kernel) (by decide) (s' := 152) (by decide)
  generalize jn m23 151 zr = m24 at c24 ⊢
  clear c23
  refine G_putF (pc := 104) dX11_init_104 fl_X11_48 ff_X11_20 rfl rfl (⟨by decide, (by decide +kernel)⟩ : jat _ 139 (11 + 10) 105) (by decide) (fz_X11_20 _) ?_
  have c25 := ci_put (k' := 20) (x := 151) 20 c24 rfl (l' := [0, 140, 0, 141, 142, 143, 144, 0, 0, -1, 0, 0, 0, 0, 145, 146, 147, 148, 149, 150, 151, -1, -1, -1, -1, -1, -1, -1, -1, -1, -1, -1, -1, -1, -1, -1, -1, -1, -1, -1, -1, 0, -1, -1, 0, -1, -1, -1, -1, -1, 0, -1, 0, -1, -1, -1, 0, -1, -1, -1, 0, -1, -1, -1, 0, 0, -1, 0, 0, 0, -1, -1, -1, -1, -1, 0, -1, -1, -1, -1, -1, -1, -1, -1, -1, -1, 0, -1, 0, 0, -1, -1, -1, -1, -1, -1, -1, -1, -1, -1, -1, -1, 0, 0, 0]) rfl
  generalize jup m24 139 20 151 = m25 at c25 ⊢
  clear c24
  refine G_aloadn (pc := 107) dX11_init_107 rfl ?_
  refine G_bipush (pc := 108) dX11_init_108 (by decide +kernel) (by decide) ?_
  refine N_newI (pc := 110) (n := 72) (L := 152) (sh' := (SH.take 153)) dX11_init_110 rfl (Nat.le_of_ble_eq_true rfl) (by decide +kernel) (by decide +kernel) (by decide +kernel) (by decide +kernel) ?_
  have c26 := ci_z c25 (by decide +kernel) (by decide) (s' := 153) (by decide)
  generalize jn m25 152 zr = m26 at c26 ⊢
  clear c25
  refine G_putF (pc := 112) dX11_init_112 fl_X11_51 ff_X11_21 rfl rfl (⟨by decide, (by decide +kernel)⟩ : jat _ 139 (11 + 10) 105) (by decide) (fz_X11_21 _) ?_
  have c27 := ci_put (k' := 21) (x := 152) 21 c26 rfl (l' := [0, 140, 0, 141, 142, 143, 144, 0, 0, -1, 0, 0, 0, 0, 145, 146, 147, 148, 149, 150, 151, 152, -1, -1, -1, -1, -1, -1, -1, -1, -1, -1, -1, -1, -1, -1, -1, -1, -1, -1, -1, 0, -1, -1, 0, -1, -1, -1, -1, -1, 0, -1, 0, -1, -1, -1, 0, -1, -1, -1, 0, -1, -1, -1, 0, 0, -1, 0, 0, 0, -1, -1, -1, -1, -1, 0, -1, -1, -1, -1, -1, -1, -1, -1, -1, -1, 0, -1, 0, 0, -1, -1, -1, -1, -1, -1, -1, -1, -1, -1, -1, -1, 0, 0, 0]) rfl
  generalize jup m26 139 21 152 = m27 at c27 ⊢
  clear c26
  refine G_aloadn (pc := 115) dX11_init_115 rfl ?_
  refine G_bipush (pc := 116) dX11_init_116 (by decide +kernel) (by decide) ?_
  refine N_newZ (pc := 118) (n := 72) (L := 153) (sh' := (SH.take 154)) dX11_init_118 rfl (Nat.le_of_ble_eq_true rfl) (by decide +kernel) (by decide +kernel) (by decide +kernel) (by decide +kernel) ?_
  have c28 := ci_z c27 (by decide +kernel) (by decide) (s' := 154) (by decide)
  generalize jn m27 153 zr = m28 at c28 ⊢
  clear c27
  refine G_putF (pc := 120) dX11_init_120 fl_X11_54 ff_X11_22 rfl rfl (⟨by decide, (by decide +kernel)⟩ : jat _ 139 (11 + 10) 105) (by decide) (fz_X11_22 _) ?_
  have c29 := ci_put (k' := 22) (x := 153) 22 c28 rfl (l' := [0, 140, 0, 141, 142, 143, 144, 0, 0, -1, 0, 0, 0, 0, 145, 146, 147, 148, 149, 150, 151, 152, 153, -1, -1, -1, -1, -1, -1, -1, -1, -1, -1, -1, -1, -1, -1, -1, -1, -1, -1, 0, -1, -1, 0, -1, -1, -1, -1, -1, 0, -1, 0, -1, -1, -1, 0, -1, -1, -1, 0, -1, -1, -1, 0, 0, -1, 0, 0, 0, -1, -1, -1, -1, -1, 0, -1, -1, -1, -1, -1, -1, -1, -1, -1, -1, 0, -1, 0, 0, -1, -1, -1, -1, -1, -1, -1, -1, -1, -1, -1, -1, 0, 0, 0]) rfl
  generalize jup m28 139 22 153 = m29 at c29 ⊢
  clear c28
  refine G_aloadn (pc := 123) dX11_init_123 rfl ?_
  refine G_iconst (pc := 124) dX11_init_124 (by decide) ?_
  refine N_newI (pc := 125) (n := 3) (L := 154) (sh' := (SH.take 155)) dX11_init_125 rfl (Nat.le_of_ble_eq_true rfl) (by decide +kernel) (by decide +kernel) (by decide +kernel) (by decide +kernel) ?_
  have c30 := ci_z c29 (by decide +kernel) (by decide) (s' := 155) (by decide)
  generalize jn m29 154 zr = m30 at c30 ⊢
  clear c29
  refine G_putF (pc := 127) dX11_init_127 fl_X11_58 ff_X11_23 rfl rfl (⟨by decide, (by decide +kernel)⟩ : jat _ 139 (11 + 10) 105) (by decide) (fz_X11_23 _) ?_
  have c31 := ci_put (k' := 23) (x := 154) 23 c30 rfl (l' := [0, 140, 0, 141, 142, 143, 144, 0, 0, -1, 0, 0, 0, 0, 145, 146, 147, 148, 149, 150, 151, 152, 153, 154, -1, -1, -1, -1, -1, -1, -1, -1, -1, -1, -1, -1, -1, -1, -1, -1, -1, 0, -1, -1, 0, -1, -1, -1, -1, -1, 0, -1, 0, -1, -1, -1, 0, -1, -1, -1, 0, -1, -1, -1, 0, 0, -1, 0, 0, 0, -1, -1, -1, -1, -1, 0, -1, -1, -1, -1, -1, -1, -1, -1, -1, -1, 0, -1, 0, 0, -1, -1, -1, -1, -1, -1, -1, -1, -1, -1, -1, -1, 0, 0, 0]) rfl
  generalize jup m30 139 23 154 = m31 at c31 ⊢
  clear c30
  refine G_aloadn (pc := 130) dX11_init_130 rfl ?_
  refine G_bipush (pc := 131) dX11_init_131 (by decide +kernel) (by decide) ?_
  refine N_newI (pc := 133) (n := 9) (L := 155) (sh' := (SH.take 156)) dX11_init_133 rfl (Nat.le_of_ble_eq_true rfl) (by decide +kernel) (by decide +kernel) (by decide +kernel) (by decide +kernel) ?_
  have c32 := ci_z c31 (by decide +kernel) (by decide) (s' := 156) (by decide)
  generalize jn m31 155 zr = m32 at c32 ⊢
  clear c31
  refine G_putF (pc := 135) dX11_init_135 fl_X11_61 ff_X11_24 rfl rfl (⟨by decide, (by decide +kernel)⟩ : jat _ 139 (11 + 10) 105) (by decide) (fz_X11_24 _) ?_
  have c33 := ci_put (k' := 24) (x := 155) 24 c32 rfl (l' := [0, 140, 0, 141, 142, 143, 144, 0, 0, -1, 0, 0, 0, 0, 145, 146, 147, 148, 149, 150, 151, 152, 153, 154, 155, -1, -1, -1, -1, -1, -1, -1, -1, -1, -1, -1, -1, -1, -1, -1, -1, 0, -1, -1, 0, -1, -1, -1, -1, -1, 0, -1, 0, -1, -1, -1, 0, -1, -1, -1, 0, -1, -1, -1, 0, 0, -1, 0, 0, 0, -1, -1, -1, -1, -1, 0, -1, -1, -1, -1, -1, -1, -1, -1, -1, -1, 0, -1, 0, 0, -1, -1, -1, -1, -1, -1, -1, -1, -1, -1, -1, -1, 0, 0, 0]) rfl
  generalize jup m32 139 24 155 = m33 at c33 ⊢
  clear c32
  refine G_aloadn (pc := 138) dX11_init_138 rfl ?_
  refine G_bipush (pc := 139) dX11_init_139 (by decide +kernel) (by decide) ?_
  refine N_newI (pc := 141) (n := 9) (L := 156) (sh' := (SH.take 157)) dX11_init_141 rfl (Nat.le_of_ble_eq_true rfl) (by decide +kernel) (by decide +kernel) (by decide +kernel) (by decide +kernel) ?_
  have c34 := ci_z c33 (by decide +kernel) (by decide) (s' := 157) (by decide)
  generalize jn m33 156 zr = m34 at c34 ⊢
  clear c33
  refine G_putF (pc := 143) dX11_init_143 fl_X11_64 ff_X11_25 rfl rfl (⟨by decide, (by decide +kernel)⟩ : jat _ 139 (11 + 10) 105) (by decide) (fz_X11_25 _) ?_
  have c35 := ci_put (k' := 25) (x := 156) 25 c34 rfl (l' := [0, 140, 0, 141, 142, 143, 144, 0, 0, -1, 0, 0, 0, 0, 145, 146, 147, 148, 149, 150, 151, 152, 153, 154, 155, 156, -1, -1, -1, -1, -1, -1, -1, -1, -1, -1, -1, -1, -1, -1, -1, 0, -1, -1, 0, -1, -1, -1, -1, -1, 0, -1, 0, -1, -1, -1, 0, -1, -1, -1, 0, -1, -1, -1, 0, 0, -1, 0, 0, 0, -1, -1, -1, -1, -1, 0, -1, -1, -1, -1, -1, -1, -1, -1, -1, -1, 0, -1, 0, 0, -1, -1, -1, -1, -1, -1, -1, -1, -1, -1, -1, -1, 0, 0, 0]) rfl
  generalize jup m34 139 25 156 = m35 at c35 ⊢
  clear c34
  refine G_aloadn (pc := 146) dX11_init_146 rfl ?_
  refine G_iconst (pc := 147) dX11_init_147 (by decide) ?_
  refine N_newI (pc := 148) (n := 3) (L := 157) (sh' := (SH.take 158)) dX11_init_148 rfl (Nat.le_of_ble_eq_true rfl) (by decide +kernel) (by decide +kernel) (by decide +kernel) (by decide +kernel) ?_
  have c36 := ci_z c35 (by decide +kernel) (by decide) (s' := 158) (by decide)
  generalize jn m35 157 zr = m36 at c36 ⊢
  clear c35
  refine G_putF (pc := 150) dX11_init_150 fl_X11_67 ff_X11_26 rfl rfl (⟨by decide, (by decide +kernel)⟩ : jat _ 139 (11 + 10) 105) (by decide) (fz_X11_26 _) ?_
  have c37 := ci_put (k' := 26) (x := 157) 26 c36 rfl (l' := [0, 140, 0, 141, 142, 143, 144, 0, 0, -1, 0, 0, 0, 0, 145, 146, 147, 148, 149, 150, 151, 152, 153, 154, 155, 156, 157, -1, -1, -1, -1, -1, -1, -1, -1, -1, -1, -1, -1, -1, -1, 0, -1, -1, 0, -1, -1, -1, -1, -1, 0, -1, 0, -1, -1, -1, 0, -1, -1, -1, 0, -1, -1, -1, 0, 0, -1, 0, 0, 0, -1, -1, -1, -1, -1, 0, -1, -1, -1, -1, -1, -1, -1, -1, -1, -1, 0, -1, 0, 0, -1, -1, -1, -1, -1, -1, -1, -1, -1, -1, -1, -1, 0, 0, 0]) rfl
  generalize jup m36 139 26 157 = m37 at c37 ⊢
  clear c36
  refine G_aloadn (pc := 153) dX11_init_153 rfl ?_
  refine G_bipush (pc := 154) dX11_init_154 (by decide +kernel) (by decide) ?_
  refine N_newI (pc := 156) (n := 18) (L := 158) (sh' := (SH.take 159)) dX11_init_156 rfl (Nat.le_of_ble_eq_true rfl) (by decide +kernel) (by decide +kernel) (by decide +kernel) (by decide +kernel) ?_
  have c38 := ci_z c37 (by decide +kernel) (by decide) (s' := 159) (by decide)
  generalize jn m37 158 zr = m38 at c38 ⊢
  clear c37
  refine G_putF (pc := 158) dX11_init_158 fl_X11_70 ff_X11_27 rfl rfl (⟨by decide, (by decide +kernel)⟩ : jat _ 139 (11 + 10) 105) (by decide) (fz_X11_27 _) ?_
  have c39 := ci_put (k' := 27) (x := 158) 27 c38 rfl (l' := [0, 140, 0, 141, 142, 143, 144, 0, 0, -1, 0, 0, 0, 0, 145, 146, 147, 148, 149, 150, 151, 152, 153, 154, 155, 156, 157, 158, -1, -1, -1, -1, -1, -1, -1, -1, -1, -1, -1, -1, -1, 0, -1, -1, 0, -1, -1, -1, -1, -1, 0, -1, 0, -1, -1, -1, 0, -1, -1, -1, 0, -1, -1, -1, 0, 0, -1, 0, 0, 0, -1, -1, -1, -1, -1, 0, -1, -1, -1, -1, -1, -1, -1, -1, -1, -1, 0, -1, 0, 0, -1, -1, -1, -1, -1, -1, -1, -1, -1, -1, -1, -1, 0, 0, 0]) rfl
  generalize jup m38 139 27 158 = m39 at c39 ⊢
  clear c38
  refine G_aloadn (pc := 161) dX11_init_161 rfl ?_
  refine G_iconst (pc := 162) dX11_init_162 (by decide) ?_
  refine N_newI (pc := 163) (n := 3) (L := 159) (sh' := (SH.take 160)) dX11_init_163 rfl (Nat.le_of_ble_eq_true rfl) (by decide +kernel) (by decide +kernel) (by decide +kernel) (by decide +kernel) ?_
  have c40 := ci_z c39 (by decide +kernel) (by decide) (s' := 160) (by decide)
  generalize jn m39 159 zr = m40 at c40 ⊢
  clear c39
  refine G_putF (pc := 165) dX11_init_165 fl_X11_73 ff_X11_28 rfl rfl (⟨by decide, (by decide +kernel)⟩ : jat _ 139 (11 + 10) 105) (by decide) (fz_X11_28 _) ?_
  have c41 := ci_put (k' := 28) (x := 159) 28 c40 rfl (l' := [0, 140, 0, 141, 142, 143, 144, 0, 0, -1, 0, 0, 0, 0, 145, 146, 147, 148, 149, 150, 151, 152, 153, 154, 155, 156, 157, 158, 159, -1, -1, -1, -1, -1, -1, -1, -1, -1, -1, -1, -1, 0, -1, -1, 0, -1, -1, -1, -1, -1, 0, -1, 0, -1, -1, -1, 0, -1, -1, -1, 0, -1, -1, -1, 0, 0, -1, 0, 0, 0, -1, -1, -1, -1, -1, 0, -1, -1, -1, -1, -1, -1, -1, -1, -1, -1, 0, -1, 0, 0, -1, -1, -1, -1, -1, -1, -1, -1, -1, -1, -1, -1, 0, 0, 0]) rfl
  generalize jup m40 139 28 159 = m41 at c41 ⊢
  clear c40
  refine G_aloadn (pc := 168) dX11_init_168 rfl ?_
  refine G_bipush (pc := 169) dX11_init_169 (by decide +kernel) (by decide) ?_
  refine N_newI (pc := 171) (n := 24) (L := 160) (sh' := (SH.take 161)) dX11_init_171 rfl (Nat.le_of_ble_eq_true rfl) (by decide +kernel) (by decide +kernel) (by decide +kernel) (by decide +kernel) ?_
  have c42 := ci_z c41 (by decide +kernel) (by decide) (s' := 161) (by decide)
  generalize jn m41 160 zr = m42 at c42 ⊢
  clear c41
  refine G_putF (pc := 173) dX11_init_173 fl_X11_76 ff_X11_29 rfl rfl (⟨by decide, (by decide +kernel)⟩ : jat _ 139 (11 + 10) 105) (by decide) (fz_X11_29 _) ?_
  have c43 := ci_put (k' := 29) (x := 160) 29 c42 rfl (l' := [0, 140, 0, 141, 142, 143, 144, 0, 0, -1, 0, 0, 0, 0, 145, 146, 147, 148, 149, 150, 151, 152, 153, 154, 155, 156, 157, 158, 159, 160, -1, -1, -1, -1, -1, -1, -1, -1, -1, -1, -1, 0, -1, -1, 0, -1, -1, -1, -1, -1, 0, -1, 0, -1, -1, -1, 0, -1, -1, -1, 0, -1, -1, -1, 0, 0, -1, 0, 0, 0, -1, -1, -1, -1, -1, 0, -1, -1, -1, -1, -1, -1, -1, -1, -1, -1, 0, -1, 0, 0, -1, -1, -1, -1, -1, -1, -1, -1, -1, -1, -1, -1, 0, 0, 0]) rfl
  generalize jup m42 139 29 160 = m43 at c43 ⊢
  clear c42
  refine G_aloadn (pc := 176) dX11_init_176 rfl ?_
  refine G_bipush (pc := 177) dX11_init_177 (by decide +kernel) (by decide) ?_
  refine N_newI (pc := 179) (n := 24) (L := 161) (sh' := (SH.take 162)) dX11_init_179 rfl (Nat.le_of_ble_eq_true rfl) (by decide +kernel) (by decide +kernel) (by decide +kernel) (by decide +kernel) ?_
  have c44 := ci_z c43 (by decide +kernel) (by decide) (s' := 162) (by decide)
  generalize jn m43 161 zr = m44 at c44 ⊢
  clear c43
  refine G_putF (pc := 181) dX11_init_181 fl_X11_79 ff_X11_30 rfl rfl (⟨by decide, (by decide +kernel)⟩ : jat _ 139 (11 + 10) 105) (by decide) (fz_X11_30 _) ?_
  have c45 := ci_put (k' := 30) (x := 161) 30 c44 rfl (l' := [0, 140, 0, 141, 142, 143, 144, 0, 0, -1, 0, 0, 0, 0, 145, 146, 147, 148, 149, 150, 151, 152, 153, 154, 155, 156, 157, 158, 159, 160, 161, -1, -1, -1, -1, -1, -1, -1, -1, -1, -1, 0, -1, -1, 0, -1, -1, -1, -1, -1, 0, -1, 0, -1, -1, -1, 0, -1, -1, -1, 0, -1, -1, -1, 0, 0, -1, 0, 0, 0, -1, -1, -1, -1, -1, 0, -1, -1, -1, -1, -1, -1, -1, -1, -1, -1, 0, -1, 0, 0, -1, -1, -1, -1, -1, -1, -1, -1, -1, -1, -1, -1, 0, 0, 0]) rfl
  generalize jup m44 139 30 161 = m45 at c45 ⊢
  clear c44
  refine G_aloadn (pc := 184) dX11_init_184 rfl ?_
  refine G_iconst (pc := 185) dX11_init_185 (by decide) ?_
  refine N_newI (pc := 186) (n := 3) (L := 162) (sh' := (SH.take 163)) dX11_init_186 rfl (Nat.le_of_ble_eq_true rfl) (by decide +kernel) (by decide +kernel) (by decide +kernel) (by decide +kernel) ?_
  have c46 := ci_z c45 (by decide +kernel) (by decide) (s' := 163) (by decide)
  generalize jn m45 162 zr = m46 at c46 ⊢
  clear c45
  refine G_putF (pc := 188) dX11_init_188 fl_X11_82 ff_X11_31 rfl rfl (⟨by decide, (by decide +kernel)⟩ : jat _ 139 (11 + 10) 105) (by decide) (fz_X11_31 _) ?_
  have c47 := ci_put (k' := 31) (x := 162) 31 c46 rfl (l' := [0, 140, 0, 141, 142, 143, 144, 0, 0, -1, 0, 0, 0, 0, 145, 146, 147, 148, 149, 150, 151, 152, 153, 154, 155, 156, 157, 158, 159, 160, 161, 162, -1, -1, -1, -1, -1, -1, -1, -1, -1, 0, -1, -1, 0, -1, -1, -1, -1, -1, 0, -1, 0, -1, -1, -1, 0, -1, -1, -1, 0, -1, -1, -1, 0, 0, -1, 0, 0, 0, -1, -1, -1, -1, -1, 0, -1, -1, -1, -1, -1, -1, -1, -1, -1, -1, 0, -1, 0, 0, -1, -1, -1, -1, -1, -1, -1, -1, -1, -1, -1, -1, 0, 0, 0]) rfl
  generalize jup m46 139 31 162 = m47 at c47 ⊢
  clear c46
  refine G_aloadn (pc := 191) dX11_init_191 rfl ?_
  refine G_sipush (pc := 192) dX11_init_192 (by decide +kernel) (by decide) ?_
  refine N_newI (pc := 195) (n := 1500) (L := 163) (sh' := (SH.take 164)) dX11_init_195 rfl (Nat.le_of_ble_eq_true rfl) (by decide +kernel) (by decide +kernel) (by decide +kernel) (by decide +kernel) ?_
  have c48 := ci_z c47 (by decide +kernel) (by decide) (s' := 164) (by decide)
  generalize jn m47 163 zr = m48 at c48 ⊢
  clear c47
  refine G_putF (pc := 197) dX11_init_197 fl_X11_85 ff_X11_32 rfl rfl (⟨by decide, (by decide +kernel)⟩ : jat _ 139 (11 + 10) 105) (by decide) (fz_X11_32 _) ?_
  have c49 := ci_put (k' := 32) (x := 163) 32 c48 rfl (l' := [0, 140, 0, 141, 142, 143, 144, 0, 0, -1, 0, 0, 0, 0, 145, 146, 147, 148, 149, 150, 151, 152, 153, 154, 155, 156, 157, 158, 159, 160, 161, 162, 163, -1, -1, -1, -1, -1, -1, -1, -1, 0, -1, -1, 0, -1, -1, -1, -1, -1, 0, -1, 0, -1, -1, -1, 0, -1, -1, -1, 0, -1, -1, -1, 0, 0, -1, 0, 0, 0, -1, -1, -1, -1, -1, 0, -1, -1, -1, -1, -1, -1, -1, -1, -1, -1, 0, -1, 0, 0, -1, -1, -1, -1, -1, -1, -1, -1, -1, -1, -1, -1, 0, 0, 0]) rfl
  generalize jup m48 139 32 163 = m49 at c49 ⊢
  clear c48
  refine G_aloadn (pc := 200) dX11_init_200 rfl ?_
  refine G_sipush (pc := 201) dX11_init_201 (by decide +kernel) (by decide) ?_
  refine N_newI (pc := 204) (n := 1500) (L := 164) (sh' := (SH.take 165)) dX11_init_204 rfl (Nat.le_of_ble_eq_true rfl) (by decide +kernel) (by decide +kernel) (by decide +kernel) (by decide +kernel) ?_
  have c50 := ci_z c49 (by decide +kernel) (by decide) (s' := 165) (by decide)
  generalize jn m49 164 zr = m50 at c50 ⊢
  clear c49
  refine G_putF (pc := 206) dX11_init_206 fl_X11_88 ff_X11_33 rfl rfl (⟨by decide, (by decide +kernel)⟩ : jat _ 139 (11 + 10) 105) (by decide) (fz_X11_33 _) ?_
  have c51 := ci_put (k' := 33) (x := 164) 33 c50 rfl (l' := [0, 140, 0, 141, 142, 143, 144, 0, 0, -1, 0, 0, 0, 0, 145, 146, 147, 148, 149, 150, 151, 152, 153, 154, 155, 156, 157, 158, 159, 160, 161, 162, 163, 164, -1, -1, -1, -1, -1, -1, -1, 0, -1, -1, 0, -1, -1, -1, -1, -1, 0, -1, 0, -1, -1, -1, 0, -1, -1, -1, 0, -1, -1, -1, 0, 0, -1, 0, 0, 0, -1, -1, -1, -1, -1, 0, -1, -1, -1, -1, -1, -1, -1, -1, -1, -1, 0, -1, 0, 0, -1, -1, -1, -1, -1, -1, -1, -1, -1, -1, -1, -1, 0, 0, 0]) rfl
  generalize jup m50 139 33 164 = m51 at c51 ⊢
  clear c50
  refine G_aloadn (pc := 209) dX11_init_209 rfl ?_
  refine G_iconst (pc := 210) dX11_init_210 (by decide) ?_
  refine N_newI (pc := 211) (n := 3) (L := 165) (sh' := (SH.take 166)) dX11_init_211 rfl (Nat.le_of_ble_eq_true rfl) (by decide +kernel) (by decide +kernel) (by decide +kernel) (by decide +kernel) ?_
  have c52 := ci_z c51 (by decide +kernel) (by decide) (s' := 166) (by decide)
  generalize jn m51 165 zr = m52 at c52 ⊢
  clear c51
  refine G_putF (pc := 213) dX11_init_213 fl_X11_91 ff_X11_34 rfl rfl (⟨by decide, (by decide +kernel)⟩ : jat _ 139 (11 + 10) 105) (by decide) (fz_X11_34 _) ?_
  have c53 := ci_put (k' := 34) (x := 165) 34 c52 rfl (l' := [0, 140, 0, 141, 142, 143, 144, 0, 0, -1, 0, 0, 0, 0, 145, 146, 147, 148, 149, 150, 151, 152, 153, 154, 155, 156, 157, 158, 159, 160, 161, 162, 163, 164, 165, -1, -1, -1, -1, -1, -1, 0, -1, -1, 0, -1, -1, -1, -1, -1, 0, -1, 0, -1, -1, -1, 0, -1, -1, -1, 0, -1, -1, -1, 0, 0, -1, 0, 0, 0, -1, -1, -1, -1, -1, 0, -1, -1, -1, -1, -1, -1, -1, -1, -1, -1, 0, -1, 0, 0, -1, -1, -1, -1, -1, -1, -1, -1, -1, -1, -1, -1, 0, 0, 0]) rfl
  generalize jup m52 139 34 165 = m53 at c53 ⊢
  clear c52
  refine G_aloadn (pc := 216) dX11_init_216 rfl ?_
  refine G_sipush (pc := 217) dX11_init_217 (by decide +kernel) (by decide) ?_
  refine N_newZ (pc := 220) (n := 600) (L := 166) (sh' := (SH.take 167)) dX11_init_220 rfl (Nat.le_of_ble_eq_true rfl) (by decide +kernel) (by decide +kernel) (by decide +kernel) (by decide +kernel) ?_
  have c54 := ci_z c53 (by decide +kernel) (by decide) (s' := 167) (by decide)
  generalize jn m53 166 zr = m54 at c54 ⊢
  clear c53
  refine G_putF (pc := 222) dX11_init_222 fl_X11_94 ff_X11_35 rfl rfl (⟨by decide, (by decide +kernel)⟩ : jat _ 139 (11 + 10) 105) (by decide) (fz_X11_35 _) ?_
  have c55 := ci_put (k' := 35) (x := 166) 35 c54 rfl (l' := [0, 140, 0, 141, 142, 143, 144, 0, 0, -1, 0, 0, 0, 0, 145, 146, 147, 148, 149, 150, 151, 152, 153, 154, 155, 156, 157, 158, 159, 160, 161, 162, 163, 164, 165, 166, -1, -1, -1, -1, -1, 0, -1, -1, 0, -1, -1, -1, -1, -1, 0, -1, 0, -1, -1, -1, 0, -1, -1, -1, 0, -1, -1, -1, 0, 0, -1, 0, 0, 0, -1, -1, -1, -1, -1, 0, -1, -1, -1, -1, -1, -1, -1, -1, -1, -1, 0, -1, 0, 0, -1, -1, -1, -1, -1, -1, -1, -1, -1, -1, -1, -1, 0, 0, 0]) rfl
  generalize jup m54 139 35 166 = m55 at c55 ⊢
  clear c54
  refine G_aloadn (pc := 225) dX11_init_225 rfl ?_
  refine G_sipush (pc := 226) dX11_init_226 (by decide +kernel) (by decide) ?_
  refine N_newI (pc := 229) (n := 600) (L := 167) (sh' := (SH.take 168)) dX11_init_229 rfl (Nat.le_of_ble_eq_true rfl) (by decide +kernel) (by decide +kernel) (by decide +kernel) (by decide +kernel) ?_
  have c56 := ci_z c55 (by decide +kernel) (by decide) (s' := 168) (by decide)
  generalize jn m55 167 zr = m56 at c56 ⊢
  clear c55
  refine G_putF (pc := 231) dX11_init_231 fl_X11_97 ff_X11_36 rfl rfl (⟨by decide, (by decide +kernel)⟩ : jat _ 139 (11 + 10) 105) (by decide) (fz_X11_36 _) ?_
  have c57 := ci_put (k' := 36) (x := 167) 36 c56 rfl (l' := [0, 140, 0, 141, 142, 143, 144, 0, 0, -1, 0, 0, 0, 0, 145, 146, 147, 148, 149, 150, 151, 152, 153, 154, 155, 156, 157, 158, 159, 160, 161, 162, 163, 164, 165, 166, 167, -1, -1, -1, -1, 0, -1, -1, 0, -1, -1, -1, -1, -1, 0, -1, 0, -1, -1, -1, 0, -1, -1, -1, 0, -1, -1, -1, 0, 0, -1, 0, 0, 0, -1, -1, -1, -1, -1, 0, -1, -1, -1, -1, -1, -1, -1, -1, -1, -1, 0, -1, 0, 0, -1, -1, -1, -1, -1, -1, -1, -1, -1, -1, -1, -1, 0, 0, 0]) rfl
  generalize jup m56 139 36 167 = m57 at c57 ⊢
  clear c56
  refine G_aloadn (pc := 234) dX11_init_234 rfl ?_
  refine G_sipush (pc := 235) dX11_init_235 (by decide +kernel) (by decide) ?_
  refine N_newI (pc := 238) (n := 600) (L := 168) (sh' := (SH.take 169)) dX11_init_238 rfl (Nat.le_of_ble_eq_true rfl) (by decide +kernel) (by decide +kernel) (by decide +kernel) (by decide +kernel) ?_
  have c58 := ci_z c57 (by decide +kernel) (by decide) (s' := 169) (by decide)
  generalize jn m57 168 zr = m58 at c58 ⊢
  clear c57
  refine G_putF (pc := 240) dX11_init_240 fl_X11_100 ff_X11_37 rfl rfl (⟨by decide, (by decide +kernel)⟩ : jat _ 139 (11 + 10) 105) (by decide) (fz_X11_37 _) ?_
  have c59 := ci_put (k' := 37) (x := 168) 37 c58 rfl (l' := [0, 140, 0, 141, 142, 143, 144, 0, 0, -1, 0, 0, 0, 0, 145, 146, 147, 148, 149, 150, 151, 152, 153, 154, 155, 156, 157, 158, 159, 160, 161, 162, 163, 164, 165, 166, 167, 168, -1, -1, -1, 0, -1, -1, 0, -1, -1, -1, -1, -1, 0, -1, 0, -1, -1, -1, 0, -1, -1, -1, 0, -1, -1, -1, 0, 0, -1, 0, 0, 0, -1, -1, -1, -1, -1, 0, -1, -1, -1, -1, -1, -1, -1, -1, -1, -1, 0, -1, 0, 0, -1, -1, -1, -1, -1, -1, -1, -1, -1, -1, -1, -1, 0, 0, 0]) rfl
  generalize jup m58 139 37 168 = m59 at c59 ⊢
  clear c58
  refine G_aloadn (pc := 243) dX11_init_243 rfl ?_
  refine G_sipush (pc := 244) dX11_init_244 (by decide +kernel) (by decide) ?_
  refine N_newI (pc := 247) (n := 600) (L := 169) (sh' := (SH.take 170)) dX11_init_247 rfl (Nat.le_of_ble_eq_true rfl) (by decide +kernel) (by decide +kernel) (by decide +kernel) (by decide +kernel) ?_
  have c60 := ci_z c59 (by decide +kernel) (by decide) (s' := 170) (by decide)
  generalize jn m59 169 zr = m60 at c60 ⊢
  clear c59
  refine G_putF (pc := 249) dX11_init_249 fl_X11_103 ff_X11_38 rfl rfl (⟨by decide, (by decide +kernel)⟩ : jat _ 139 (11 + 10) 105) (by decide) (fz_X11_38 _) ?_
  have c61 := ci_put (k' := 38) (x := 169) 38 c60 rfl (l' := [0, 140, 0, 141, 142, 143, 144, 0, 0, -1, 0, 0, 0, 0, 145, 146, 147, 148, 149, 150, 151, 152, 153, 154, 155, 156, 157, 158, 159, 160, 161, 162, 163, 164, 165, 166, 167, 168, 169, -1, -1, 0, -1, -1, 0, -1, -1, -1, -1, -1, 0, -1, 0, -1, -1, -1, 0, -1, -1, -1, 0, -1, -1, -1, 0, 0, -1, 0, 0, 0, -1, -1, -1, -1, -1, 0, -1, -1, -1, -1, -1, -1, -1, -1, -1, -1, 0, -1, 0, 0, -1, -1, -1, -1, -1, -1, -1, -1, -1, -1, -1, -1, 0, 0, 0]) rfl
  generalize jup m60 139 38 169 = m61 at c61 ⊢
  clear c60
  refine G_aloadn (pc := 252) dX11_init_252 rfl ?_
  refine G_sipush (pc := 253) dX11_init_253 (by decide +kernel) (by decide) ?_
  refine N_newI (pc := 256) (n := 600) (L := 170) (sh' := (SH.take 171)) dX11_init_256 rfl (Nat.le_of_ble_eq_true rfl) (by decide +kernel) (by decide +kernel) (by decide +kernel) (by decide +kernel) ?_
  have c62 := ci_z c61 (by decide +kernel) (by decide) (s' := 171) (by decide)
  generalize jn m61 170 zr = m62 at c62 ⊢
  clear c61
  refine G_putF (pc := 258) dX11_init_258 fl_X11_106 ff_X11_39 rfl rfl (⟨by decide, (by decide +kernel)⟩ : jat _ 139 (11 + 10) 105) (by decide) (fz_X11_39 _) ?_
  have c63 := ci_put (k' := 39) (x := 170) 39 c62 rfl (l' := [0, 140, 0, 141, 142, 143, 144, 0, 0, -1, 0, 0, 0, 0, 145, 146, 147, 148, 149, 150, 151, 152, 153, 154, 155, 156, 157, 158, 159, 160, 161, 162, 163, 164, 165, 166, 167, 168, 169, 170, -1, 0, -1, -1, 0, -1, -1, -1, -1, -1, 0, -1, 0, -1, -1, -1, 0, -1, -1, -1, 0, -1, -1, -1, 0, 0, -1, 0, 0, 0, -1, -1, -1, -1, -1, 0, -1, -1, -1, -1, -1, -1, -1, -1, -1, -1, 0, -1, 0, 0, -1, -1, -1, -1, -1, -1, -1, -1, -1, -1, -1, -1, 0, 0, 0]) rfl
  generalize jup m62 139 39 170 = m63 at c63 ⊢
  clear c62
  refine G_aloadn (pc := 261) dX11_init_261 rfl ?_
  refine G_sipush (pc := 262) dX11_init_262 (by decide +kernel) (by decide) ?_
  refine N_newI (pc := 265) (n := 600) (L := 171) (sh' := (SH.take 172)) dX11_init_265 rfl (Nat.le_of_ble_eq_true rfl) (by decide +kernel) (by decide +kernel) (by decide +kernel) (by decide +kernel) ?_
  have c64 := ci_z c63 (by decide +kernel) (by decide) (s' := 172) (by decide)
  generalize jn m63 171 zr = m64 at c64 ⊢
  clear c63
  refine G_putF (pc := 267) dX11_init_267 fl_X11_109 ff_X11_40 rfl rfl (⟨by decide, (by decide +kernel)⟩ : jat _ 139 (11 + 10) 105) (by decide) (fz_X11_40 _) ?_
  have c65 := ci_put (k' := 40) (x := 171) 40 c64 rfl (l' := [0, 140, 0, 141, 142, 143, 144, 0, 0, -1, 0, 0, 0, 0, 145, 146, 147, 148, 149, 150, 151, 152, 153, 154, 155, 156, 157, 158, 159, 160, 161, 162, 163, 164, 165, 166, 167, 168, 169, 170, 171, 0, -1, -1, 0, -1, -1, -1, -1, -1, 0, -1, 0, -1, -1, -1, 0, -1, -1, -1, 0, -1, -1, -1, 0, 0, -1, 0, 0, 0, -1, -1, -1, -1, -1, 0, -1, -1, -1, -1, -1, -1, -1, -1, -1, -1, 0, -1, 0, 0, -1, -1, -1, -1, -1, -1, -1, -1, -1, -1, -1, -1, 0, 0, 0]) rfl
  generalize jup m64 139 40 171 = m65 at c65 ⊢
  clear c64
  refine G_aloadn (pc := 270) dX11_init_270 rfl ?_
  refine G_bipush (pc := 271) dX11_init_271 (by decide +kernel) (by decide) ?_
  refine N_newL (pc := 273) (n := 30) (L := 172) (sh' := (SH.take 173)) dX11_init_273 rfl (Nat.le_of_ble_eq_true rfl) (by decide +kernel) (by decide +kernel) (by decide +kernel) (by decide +kernel) ?_
  have c66 := ci_z c65 (by decide +kernel) (by decide) (s' := 173) (by decide)
  generalize jn m65 172 zr = m66 at c66 ⊢
  clear c65
  refine G_putF (pc := 275) dX11_init_275 fl_X11_112 ff_X11_42 rfl rfl (⟨by decide, (by decide +kernel)⟩ : jat _ 139 (11 + 10) 105) (by decide) (fz_X11_42 _) ?_
  have c67 := ci_put (k' := 42) (x := 172) 42 c66 rfl (l' := [0, 140, 0, 141, 142, 143, 144, 0, 0, -1, 0, 0, 0, 0, 145, 146, 147, 148, 149, 150, 151, 152, 153, 154, 155, 156, 157, 158, 159, 160, 161, 162, 163, 164, 165, 166, 167, 168, 169, 170, 171, 0, 172, -1, 0, -1, -1, -1, -1, -1, 0, -1, 0, -1, -1, -1, 0, -1, -1, -1, 0, -1, -1, -1, 0, 0, -1, 0, 0, 0, -1, -1, -1, -1, -1, 0, -1, -1, -1, -1, -1, -1, -1, -1, -1, -1, 0, -1, 0, 0, -1, -1, -1, -1, -1, -1, -1, -1, -1, -1, -1, -1, 0, 0, 0]) rfl
  generalize jup m66 139 42 172 = m67 at c67 ⊢
  clear c66
  refine G_aloadn (pc := 278) dX11_init_278 rfl ?_
  refine G_bipush (pc := 279) dX11_init_279 (by decide +kernel) (by decide) ?_
  refine N_newI (pc := 281) (n := 30) (L := 173) (sh' := (SH.take 174)) dX11_init_281 rfl (Nat.le_of_ble_eq_true rfl) (by decide +kernel) (by decide +kernel) (by decide +kernel) (by decide +kernel) ?_
  have c68 := ci_z c67 (by decide +kernel) (by decide) (s' := 174) (by decide)
  generalize jn m67 173 zr = m68 at c68 ⊢
  clear c67
  refine G_putF (pc := 283) dX11_init_283 fl_X11_115 ff_X11_43 rfl rfl (⟨by decide, (by decide +kernel)⟩ : jat _ 139 (11 + 10) 105) (by decide) (fz_X11_43 _) ?_
  have c69 := ci_put (k' := 43) (x := 173) 43 c68 rfl (l' := [0, 140, 0, 141, 142, 143, 144, 0, 0, -1, 0, 0, 0, 0, 145, 146, 147, 148, 149, 150, 151, 152, 153, 154, 155, 156, 157, 158, 159, 160, 161, 162, 163, 164, 165, 166, 167, 168, 169, 170, 171, 0, 172, 173, 0, -1, -1, -1, -1, -1, 0, -1, 0, -1, -1, -1, 0, -1, -1, -1, 0, -1, -1, -1, 0, 0, -1, 0, 0, 0, -1, -1, -1, -1, -1, 0, -1, -1, -1, -1, -1, -1, -1, -1, -1, -1, 0, -1, 0, 0, -1, -1, -1, -1, -1, -1, -1, -1, -1, -1, -1, -1, 0, 0, 0]) rfl
  generalize jup m68 139 43 173 = m69 at c69 ⊢
  clear c68
  refine G_aloadn (pc := 286) dX11_init_286 rfl ?_
  refine G_bipush (pc := 287) dX11_init_287 (by decide +kernel) (by decide) ?_
  refine N_newI (pc := 289) (n := 100) (L := 174) (sh' := (SH.take 175)) dX11_init_289 rfl (Nat.le_of_ble_eq_true rfl) (by decide +kernel) (by decide +kernel) (by decide +kernel) (by decide +kernel) ?_
  have c70 := ci_z c69 (by decide +kernel) (by decide) (s' := 175) (by decide)
  generalize jn m69 174 zr = m70 at c70 ⊢
  clear c69
  refine G_putF (pc := 291) dX11_init_291 fl_X11_118 ff_X11_45 rfl rfl (⟨by decide, (by decide +kernel)⟩ : jat _ 139 (11 + 10) 105) (by decide) (fz_X11_45 _) ?_
  have c71 := ci_put (k' := 45) (x := 174) 45 c70 rfl (l' := [0, 140, 0, 141, 142, 143, 144, 0, 0, -1, 0, 0, 0, 0, 145, 146, 147, 148, 149, 150, 151, 152, 153, 154, 155, 156, 157, 158, 159, 160, 161, 162, 163, 164, 165, 166, 167, 168, 169, 170, 171, 0, 172, 173, 0, 174, -1, -1, -1, -1, 0, -1, 0, -1, -1, -1, 0, -1, -1, -1, 0, -1, -1, -1, 0, 0, -1, 0, 0, 0, -1, -1, -1, -1, -1, 0, -1, -1, -1, -1, -1, -1, -1, -1, -1, -1, 0, -1, 0, 0, -1, -1, -1, -1, -1, -1, -1, -1, -1, -1, -1, -1, 0, 0, 0]) rfl
  generalize jup m70 139 45 174 = m71 at c71 ⊢
  clear c70
  refine G_aloadn (pc := 294) dX11_init_294 rfl ?_
  refine G_bipush (pc := 295) dX11_init_295 (by decide +kernel) (by decide) ?_
  refine N_newI (pc := 297) (n := 100) (L := 175) (sh' := (SH.take 176)) dX11_init_297 rfl (Nat.le_of_ble_eq_true rfl) (by decide +kernel) (by decide +kernel) (by decide +kernel) (by decide +kernel) ?_
  have c72 := ci_z c71 (by decide +kernel) (by decide) (s' := 176) (by decide)
  generalize jn m71 175 zr = m72 at c72 ⊢
  clear c71
  refine G_putF (pc := 299) dX11_init_299 fl_X11_121 ff_X11_46 rfl rfl (⟨by decide, (by decide +kernel)⟩ : jat _ 139 (11 + 10) 105) (by decide) (fz_X11_46 _) ?_
  have c73 := ci_put (k' := 46) (x := 175) 46 c72 rfl (l' := [0, 140, 0, 141, 142, 143, 144, 0, 0, -1, 0, 0, 0, 0, 145, 146, 147, 148, 149, 150, 151, 152, 153, 154, 155, 156, 157, 158, 159, 160, 161, 162, 163, 164, 165, 166, 167, 168, 169, 170, 171, 0, 172, 173, 0, 174, 175, -1, -1, -1, 0, -1, 0, -1, -1, -1, 0, -1, -1, -1, 0, -1, -1, -1, 0, 0, -1, 0, 0, 0, -1, -1, -1, -1, -1, 0, -1, -1, -1, -1, -1, -1, -1, -1, -1, -1, 0, -1, 0, 0, -1, -1, -1, -1, -1, -1, -1, -1, -1, -1, -1, -1, 0, 0, 0]) rfl
  generalize jup m72 139 46 175 = m73 at c73 ⊢
  clear c72
  refine G_aloadn (pc := 302) dX11_init_302 rfl ?_
  refine G_bipush (pc := 303) dX11_init_303 (by decide +kernel) (by decide) ?_
  refine N_newI (pc := 305) (n := 100) (L := 176) (sh' := (SH.take 177)) dX11_init_305 rfl (Nat.le_of_ble_eq_true rfl) (by decide +kernel) (by decide +kernel) (by decide +kernel) (by decide +kernel) ?_
  have c74 := ci_z c73 (by decide +kernel) (by decide) (s' := 177) (by decide)
  generalize jn m73 176 zr = m74 at c74 ⊢
  clear c73
  refine G_putF (pc := 307) dX11_init_307 fl_X11_124 ff_X11_47 rfl rfl (⟨by decide, (by decide +kernel)⟩ : jat _ 139 (11 + 10) 105) (by decide) (fz_X11_47 _) ?_
  have c75 := ci_put (k' := 47) (x := 176) 47 c74 rfl (l' := [0, 140, 0, 141, 142, 143, 144, 0, 0, -1, 0, 0, 0, 0, 145, 146, 147, 148, 149, 150, 151, 152, 153, 154, 155, 156, 157, 158, 159, 160, 161, 162, 163, 164, 165, 166, 167, 168, 169, 170, 171, 0, 172, 173, 0, 174, 175, 176, -1, -1, 0, -1, 0, -1, -1, -1, 0, -1, -1, -1, 0, -1, -1, -1, 0, 0, -1, 0, 0, 0, -1, -1, -1, -1, -1, 0, -1, -1, -1, -1, -1, -1, -1, -1, -1, -1, 0, -1, 0, 0, -1, -1, -1, -1, -1, -1, -1, -1, -1, -1, -1, -1, 0, 0, 0]) rfl
  generalize jup m74 139 47 176 = m75 at c75 ⊢
  clear c74
  refine G_aloadn (pc := 310) dX11_init_310 rfl ?_
  refine G_bipush (pc := 311) dX11_init_311 (by decide +kernel) (by decide) ?_
  refine N_newI (pc := 313) (n := 100) (L := 177) (sh' := (SH.take 178)) dX11_init_313 rfl (Nat.le_of_ble_eq_true rfl) (by decide +kernel) (by decide +kernel) (by decide +kernel) (by decide +kernel) ?_
  have c76 := ci_z c75 (by decide +kernel) (by decide) (s' := 178) (by decide)
  generalize jn m75 177 zr = m76 at c76 ⊢
  clear c75
  refine G_putF (pc := 315) dX11_init_315 fl_X11_127 ff_X11_48 rfl rfl (⟨by decide, (by decide +kernel)⟩ : jat _ 139 (11 + 10) 105) (by decide) (fz_X11_48 _) ?_
  have c77 := ci_put (k' := 48) (x := 177) 48 c76 rfl (l' := [0, 140, 0, 141, 142, 143, 144, 0, 0, -1, 0, 0, 0, 0, 145, 146, 147, 148, 149, 150, 151, 152, 153, 154, 155, 156, 157, 158, 159, 160, 161, 162, 163, 164, 165, 166, 167, 168, 169, 170, 171, 0, 172, 173, 0, 174, 175, 176, 177, -1, 0, -1, 0, -1, -1, -1, 0, -1, -1, -1, 0, -1, -1, -1, 0, 0, -1, 0, 0, 0, -1, -1, -1, -1, -1, 0, -1, -1, -1, -1, -1, -1, -1, -1, -1, -1, 0, -1, 0, 0, -1, -1, -1, -1, -1, -1, -1, -1, -1, -1, -1, -1, 0, 0, 0]) rfl
  generalize jup m76 139 48 177 = m77 at c77 ⊢
  clear c76
  refine G_aloadn (pc := 318) dX11_init_318 rfl ?_
  refine G_bipush (pc := 319) dX11_init_319 (by decide +kernel) (by decide) ?_
  refine N_newI (pc := 321) (n := 100) (L := 178) (sh' := (SH.take 179)) dX11_init_321 rfl (Nat.le_of_ble_eq_true rfl) (by decide +kernel) (by decide +kernel) (by decide +kernel) (by decide +kernel) ?_
  have c78 := ci_z c77 (by decide +kernel) (by decide) (s' := 179) (by decide)
  generalize jn m77 178 zr = m78 at c78 ⊢
  clear c77
  refine G_putF (pc := 323) dX11_init_323 fl_X11_130 ff_X11_49 rfl rfl (⟨by decide, (by decide +kernel)⟩ : jat _ 139 (11 + 10) 105) (by decide) (fz_X11_49 _) ?_
  have c79 := ci_put (k' := 49) (x := 178) 49 c78 rfl (l' := [0, 140, 0, 141, 142, 143, 144, 0, 0, -1, 0, 0, 0, 0, 145, 146, 147, 148, 149, 150, 151, 152, 153, 154, 155, 156, 157, 158, 159, 160, 161, 162, 163, 164, 165, 166, 167, 168, 169, 170, 171, 0, 172, 173, 0, 174, 175, 176, 177, 178, 0, -1, 0, -1, -1, -1, 0, -1, -1, -1, 0, -1, -1, -1, 0, 0, -1, 0, 0, 0, -1, -1, -1, -1, -1, 0, -1, -1, -1, -1, -1, -1, -1, -1, -1, -1, 0, -1, 0, 0, -1, -1, -1, -1, -1, -1, -1, -1, -1, -1, -1, -1, 0, 0, 0]) rfl
  generalize jup m78 139 49 178 = m79 at c79 ⊢
  clear c78
  refine G_aloadn (pc := 326) dX11_init_326 rfl ?_
  refine G_bipush (pc := 327) dX11_init_327 (by decide +kernel) (by decide) ?_
  refine N_newI (pc := 329) (n := 20) (L := 179) (sh' := (SH.take 180)) dX11_init_329 rfl (Nat.le_of_ble_eq_true rfl) (by decide +kernel) (by decide +kernel) (by decide +kernel) (by decide +kernel) ?_
  have c80 := ci_z c79 (by decide +kernel) (by decide) (s' := 180) (by decide)
  generalize jn m79 179 zr = m80 at c80 ⊢
  clear c79
  refine G_putF (pc := 331) dX11_init_331 fl_X11_133 ff_X11_51 rfl rfl (⟨by decide, (by decide +kernel)⟩ : jat _ 139 (11 + 10) 105) (by decide) (fz_X11_51 _) ?_
  have c81 := ci_put (k' := 51) (x := 179) 51 c80 rfl (l' := [0, 140, 0, 141, 142, 143, 144, 0, 0, -1, 0, 0, 0, 0, 145, 146, 147, 148, 149, 150, 151, 152, 153, 154, 155, 156, 157, 158, 159, 160, 161, 162, 163, 164, 165, 166, 167, 168, 169, 170, 171, 0, 172, 173, 0, 174, 175, 176, 177, 178, 0, 179, 0, -1, -1, -1, 0, -1, -1, -1, 0, -1, -1, -1, 0, 0, -1, 0, 0, 0, -1, -1, -1, -1, -1, 0, -1, -1, -1, -1, -1, -1, -1, -1, -1, -1, 0, -1, 0, 0, -1, -1, -1, -1, -1, -1, -1, -1, -1, -1, -1, -1, 0, 0, 0]) rfl
  generalize jup m80 139 51 179 = m81 at c81 ⊢
  clear c80
  refine G_aloadn (pc := 334) dX11_init_334 rfl ?_
  refine G_bipush (pc := 335) dX11_init_335 (by decide +kernel) (by decide) ?_
  refine N_newI (pc := 337) (n := 20) (L := 180) (sh' := (SH.take 181)) dX11_init_337 rfl (Nat.le_of_ble_eq_true rfl) (by decide +kernel) (by decide +kernel) (by decide +kernel) (by decide +kernel) ?_
  have c82 := ci_z c81 (by decide +kernel) (by decide) (s' := 181) (by decide)
  generalize jn m81 180 zr = m82 at c82 ⊢
  clear c81
  refine G_putF (pc := 339) dX11_init_339 fl_X11_136 ff_X11_53 rfl rfl (⟨by decide, (by decide +kernel)⟩ : jat _ 139 (11 + 10) 105) (by decide) (fz_X11_53 _) ?_
  have c83 := ci_put (k' := 53) (x := 180) 53 c82 rfl (l' := [0, 140, 0, 141, 142, 143, 144, 0, 0, -1, 0, 0, 0, 0, 145, 146, 147, 148, 149, 150, 151, 152, 153, 154, 155, 156, 157, 158, 159, 160, 161, 162, 163, 164, 165, 166, 167, 168, 169, 170, 171, 0, 172, 173, 0, 174, 175, 176, 177, 178, 0, 179, 0, 180, -1, -1, 0, -1, -1, -1, 0, -1, -1, -1, 0, 0, -1, 0, 0, 0, -1, -1, -1, -1, -1, 0, -1, -1, -1, -1, -1, -1, -1, -1, -1, -1, 0, -1, 0, 0, -1, -1, -1, -1, -1, -1, -1, -1, -1, -1, -1, -1, 0, 0, 0]) rfl
  generalize jup m82 139 53 180 = m83 at c83 ⊢
  clear c82
  refine G_aloadn (pc := 342) dX11_init_342 rfl ?_
  refine G_bipush (pc := 343) dX11_init_343 (by decide +kernel) (by decide) ?_
  refine N_newI (pc := 345) (n := 20) (L := 181) (sh' := (SH.take 182)) dX11_init_345 rfl (Nat.le_of_ble_eq_true rfl) (by decide +kernel) (by decide +kernel) (by decide +kernel) (by decide +kernel) ?_
  have c84 := ci_z c83 (by decide +kernel) (by decide) (s' := 182) (by decide)
  generalize jn m83 181 zr = m84 at c84 ⊢
  clear c83
  refine G_putF (pc := 347) dX11_init_347 fl_X11_139 ff_X11_54 rfl rfl (⟨by decide, (by decide +kernel)⟩ : jat _ 139 (11 + 10) 105) (by decide) (fz_X11_54 _) ?_
  have c85 := ci_put (k' := 54) (x := 181) 54 c84 rfl (l' := [0, 140, 0, 141, 142, 143, 144, 0, 0, -1, 0, 0, 0, 0, 145, 146, 147, 148, 149, 150, 151, 152, 153, 154, 155, 156, 157, 158, 159, 160, 161, 162, 163, 164, 165, 166, 167, 168, 169, 170, 171, 0, 172, 173, 0, 174, 175, 176, 177, 178, 0, 179, 0, 180, 181, -1, 0, -1, -1, -1, 0, -1, -1, -1, 0, 0, -1, 0, 0, 0, -1, -1, -1, -1, -1, 0, -1, -1, -1, -1, -1, -1, -1, -1, -1, -1, 0, -1, 0, 0, -1, -1, -1, -1, -1, -1, -1, -1, -1, -1, -1, -1, 0, 0, 0]) rfl
  generalize jup m84 139 54 181 = m85 at c85 ⊢
  clear c84
  refine G_aloadn (pc := 350) dX11_init_350 rfl ?_
  refine G_bipush (pc := 351) dX11_init_351 (by decide +kernel) (by decide) ?_
  refine N_newI (pc := 353) (n := 20) (L := 182) (sh' := (SH.take 183)) dX11_init_353 rfl (Nat.le_of_ble_eq_true rfl) (by decide +kernel) (by decide +kernel) (by decide +kernel) (by decide +kernel) ?_
  have c86 := ci_z c85 (by decide +kernel) (by decide) (s' := 183) (by decide)
  generalize jn m85 182 zr = m86 at c86 ⊢
  clear c85
  refine G_putF (pc := 355) dX11_init_355 fl_X11_142 ff_X11_55 rfl rfl (⟨by decide, (by decide +kernel)⟩ : jat _ 139 (11 + 10) 105) (by decide) (fz_X11_55 _) ?_
  have c87 := ci_put (k' := 55) (x := 182) 55 c86 rfl (l' := [0, 140, 0, 141, 142, 143, 144, 0, 0, -1, 0, 0, 0, 0, 145, 146, 147, 148, 149, 150, 151, 152, 153, 154, 155, 156, 157, 158, 159, 160, 161, 162, 163, 164, 165, 166, 167, 168, 169, 170, 171, 0, 172, 173, 0, 174, 175, 176, 177, 178, 0, 179, 0, 180, 181, 182, 0, -1, -1, -1, 0, -1, -1, -1, 0, 0, -1, 0, 0, 0, -1, -1, -1, -1, -1, 0, -1, -1, -1, -1, -1, -1, -1, -1, -1, -1, 0, -1, 0, 0, -1, -1, -1, -1, -1, -1, -1, -1, -1, -1, -1, -1, 0, 0, 0]) rfl
  generalize jup m86 139 55 182 = m87 at c87 ⊢
  clear c86
  refine G_aloadn (pc := 358) dX11_init_358 rfl ?_
  refine G_bipush (pc := 359) dX11_init_359 (by decide +kernel) (by decide) ?_
  refine N_newI (pc := 361) (n := 8) (L := 183) (sh' := (SH.take 184)) dX11_init_361 rfl (Nat.le_of_ble_eq_true rfl) (by decide +kernel) (by decide +kernel) (by decide +kernel) (by decide +kernel) ?_
  have c88 := ci_z c87 (by decide +kernel) (by decide) (s' := 184) (by decide)
  generalize jn m87 183 zr = m88 at c88 ⊢
  clear c87
  refine G_putF (pc := 363) dX11_init_363 fl_X11_145 ff_X11_57 rfl rfl (⟨by decide, (by decide +kernel)⟩ : jat _ 139 (11 + 10) 105) (by decide) (fz_X11_57 _) ?_
  have c89 := ci_put (k' := 57) (x := 183) 57 c88 rfl (l' := [0, 140, 0, 141, 142, 143, 144, 0, 0, -1, 0, 0, 0, 0, 145, 146, 147, 148, 149, 150, 151, 152, 153, 154, 155, 156, 157, 158, 159, 160, 161, 162, 163, 164, 165, 166, 167, 168, 169, 170, 171, 0, 172, 173, 0, 174, 175, 176, 177, 178, 0, 179, 0, 180, 181, 182, 0, 183, -1, -1, 0, -1, -1, -1, 0, 0, -1, 0, 0, 0, -1, -1, -1, -1, -1, 0, -1, -1, -1, -1, -1, -1, -1, -1, -1, -1, 0, -1, 0, 0, -1, -1, -1, -1, -1, -1, -1, -1, -1, -1, -1, -1, 0, 0, 0]) rfl
  generalize jup m88 139 57 183 = m89 at c89 ⊢
  clear c88
  refine G_aloadn (pc := 366) dX11_init_366 rfl ?_
  refine G_bipush (pc := 367) dX11_init_367 (by decide +kernel) (by decide) ?_
  refine N_newZ (pc := 369) (n := 8) (L := 184) (sh' := (SH.take 185)) dX11_init_369 rfl (Nat.le_of_ble_eq_true rfl) (by decide +kernel) (by decide +kernel) (by decide +kernel) (by decide +kernel) ?_
  have c90 := ci_z c89 (by decide +kernel) (by decide) (s' := 185) (by decide)
  generalize jn m89 184 zr = m90 at c90 ⊢
  clear c89
  refine G_putF (pc := 371) dX11_init_371 fl_X11_148 ff_X11_58 rfl rfl (⟨by decide, (by decide +kernel)⟩ : jat _ 139 (11 + 10) 105) (by decide) (fz_X11_58 _) ?_
  have c91 := ci_put (k' := 58) (x := 184) 58 c90 rfl (l' := [0, 140, 0, 141, 142, 143, 144, 0, 0, -1, 0, 0, 0, 0, 145, 146, 147, 148, 149, 150, 151, 152, 153, 154, 155, 156, 157, 158, 159, 160, 161, 162, 163, 164, 165, 166, 167, 168, 169, 170, 171, 0, 172, 173, 0, 174, 175, 176, 177, 178, 0, 179, 0, 180, 181, 182, 0, 183, 184, -1, 0, -1, -1, -1, 0, 0, -1, 0, 0, 0, -1, -1, -1, -1, -1, 0, -1, -1, -1, -1, -1, -1, -1, -1, -1, -1, 0, -1, 0, 0, -1, -1, -1, -1, -1, -1, -1, -1, -1, -1, -1, -1, 0, 0, 0]) rfl
  generalize jup m90 139 58 184 = m91 at c91 ⊢
  clear c90
  refine G_aloadn (pc := 374) dX11_init_374 rfl ?_
  refine G_bipush (pc := 375) dX11_init_375 (by decide +kernel) (by decide) ?_
  refine N_newI (pc := 377) (n := 10) (L := 185) (sh' := (SH.take 186)) dX11_init_377 rfl (Nat.le_of_ble_eq_true rfl) (by decide +kernel) (by decide +kernel) (by decide +kernel) (by decide +kernel) ?_
  have c92 := ci_o (f := zr) (la := [0, 0, 0, 0, 0, 0, 0, 0, 0, 0]) c91 (by decide) (rowIs_all (by decide)) (s' := 186) (by decide)
  generalize jn m91 185 zr = m92 at c92 ⊢
  clear c91
  refine G_putF (pc := 379) dX11_init_379 fl_X11_151 ff_X11_59 rfl rfl (⟨by decide, (by decide +kernel)⟩ : jat _ 139 (11 + 10) 105) (by decide) (fz_X11_59 _) ?_
  have c93 := ci_put (k' := 59) (x := 185) 59 c92 rfl (l' := [0, 140, 0, 141, 142, 143, 144, 0, 0, -1, 0, 0, 0, 0, 145, 146, 147, 148, 149, 150, 151, 152, 153, 154, 155, 156, 157, 158, 159, 160, 161, 162, 163, 164, 165, 166, 167, 168, 169, 170, 171, 0, 172, 173, 0, 174, 175, 176, 177, 178, 0, 179, 0, 180, 181, 182, 0, 183, 184, 185, 0, -1, -1, -1, 0, 0, -1, 0, 0, 0, -1, -1, -1, -1, -1, 0, -1, -1, -1, -1, -1, -1, -1, -1, -1, -1, 0, -1, 0, 0, -1, -1, -1, -1, -1, -1, -1, -1, -1, -1, -1, -1, 0, 0, 0]) rfl
  generalize jup m92 139 59 185 = m93 at c93 ⊢
  clear c92
  refine G_aloadn (pc := 382) dX11_init_382 rfl ?_
  refine G_bipush (pc := 383) dX11_init_383 (by decide +kernel) (by decide) ?_
  refine N_newI (pc := 385) (n := 30) (L := 186) (sh' := (SH.take 187)) dX11_init_385 rfl (Nat.le_of_ble_eq_true rfl) (by decide +kernel) (by decide +kernel) (by decide +kernel) (by decide +kernel) ?_
  have c94 := ci_z c93 (by decide +kernel) (by decide) (s' := 187) (by decide)
  generalize jn m93 186 zr = m94 at c94 ⊢
  clear c93
  refine G_putF (pc := 387) dX11_init_387 fl_X11_154 ff_X11_61 rfl rfl (⟨by decide, (by decide +kernel)⟩ : jat _ 139 (11 + 10) 105) (by decide) (fz_X11_61 _) ?_
  have c95 := ci_put (k' := 61) (x := 186) 61 c94 rfl (l' := [0, 140, 0, 141, 142, 143, 144, 0, 0, -1, 0, 0, 0, 0, 145, 146, 147, 148, 149, 150, 151, 152, 153, 154, 155, 156, 157, 158, 159, 160, 161, 162, 163, 164, 165, 166, 167, 168, 169, 170, 171, 0, 172, 173, 0, 174, 175, 176, 177, 178, 0, 179, 0, 180, 181, 182, 0, 183, 184, 185, 0, 186, -1, -1, 0, 0, -1, 0, 0, 0, -1, -1, -1, -1, -1, 0, -1, -1, -1, -1, -1, -1, -1, -1, -1, -1, 0, -1, 0, 0, -1, -1, -1, -1, -1, -1, -1, -1, -1, -1, -1, -1, 0, 0, 0]) rfl
  generalize jup m94 139 61 186 = m95 at c95 ⊢
  clear c94
  refine G_aloadn (pc := 390) dX11_init_390 rfl ?_
  refine G_bipush (pc := 391) dX11_init_391 (by decide +kernel) (by decide) ?_
  refine N_newI (pc := 393) (n := 30) (L := 187) (sh' := (SH.take 188)) dX11_init_393 rfl (Nat.le_of_ble_eq_true rfl) (by decide +kernel) (by decide +kernel) (by decide +kernel) (by decide +kernel) ?_
  have c96 := ci_z c95 (by decide +kernel) (by decide) (s' := 188) (by decide)
  generalize jn m95 187 zr = m96 at c96 ⊢
  clear c95
  refine G_putF (pc := 395) dX11_init_395 fl_X11_157 ff_X11_62 rfl rfl (⟨by decide, (by decide +kernel)⟩ : jat _ 139 (11 + 10) 105) (by decide) (fz_X11_62 _) ?_
  have c97 := ci_put (k' := 62) (x := 187) 62 c96 rfl (l' := [0, 140, 0, 141, 142, 143, 144, 0, 0, -1, 0, 0, 0, 0, 145, 146, 147, 148, 149, 150, 151, 152, 153, 154, 155, 156, 157, 158, 159, 160, 161, 162, 163, 164, 165, 166, 167, 168, 169, 170, 171, 0, 172, 173, 0, 174, 175, 176, 177, 178, 0, 179, 0, 180, 181, 182, 0, 183, 184, 185, 0, 186, 187, -1, 0, 0, -1, 0, 0, 0, -1, -1, -1, -1, -1, 0, -1, -1, -1, -1, -1, -1, -1, -1, -1, -1, 0, -1, 0, 0, -1, -1, -1, -1, -1, -1, -1, -1, -1, -1, -1, -1, 0, 0, 0]) rfl
  generalize jup m96 139 62 187 = m97 at c97 ⊢
  clear c96
  refine G_aloadn (pc := 398) dX11_init_398 rfl ?_
  refine G_bipush (pc := 399) dX11_init_399 (by decide +kernel) (by decide) ?_
  refine N_newI (pc := 401) (n := 30) (L := 188) (sh' := (SH.take 189)) dX11_init_401 rfl (Nat.le_of_ble_eq_true rfl) (by decide +kernel) (by decide +kernel) (by decide +kernel) (by decide +kernel) ?_
  have c98 := ci_z c97 (by decide +kernel) (by decide) (s' := 189) (by decide)
  generalize jn m97 188 zr = m98 at c98 ⊢
  clear c97
  refine G_putF (pc := 403) dX11_init_403 fl_X11_160 ff_X11_63 rfl rfl (⟨by decide, (by decide +kernel)⟩ : jat _ 139 (11 + 10) 105) (by decide) (fz_X11_63 _) ?_
  have c99 := ci_put (k' := 63) (x := 188) 63 c98 rfl (l' := [0, 140, 0, 141, 142, 143, 144, 0, 0, -1, 0, 0, 0, 0, 145, 146, 147, 148, 149, 150, 151, 152, 153, 154, 155, 156, 157, 158, 159, 160, 161, 162, 163, 164, 165, 166, 167, 168, 169, 170, 171, 0, 172, 173, 0, 174, 175, 176, 177, 178, 0, 179, 0, 180, 181, 182, 0, 183, 184, 185, 0, 186, 187, 188, 0, 0, -1, 0, 0, 0, -1, -1, -1, -1, -1, 0, -1, -1, -1, -1, -1, -1, -1, -1, -1, -1, 0, -1, 0, 0, -1, -1, -1, -1, -1, -1, -1, -1, -1, -1, -1, -1, 0, 0, 0]) rfl
  generalize jup m98 139 63 188 = m99 at c99 ⊢
  clear c98
  refine G_aloadn (pc := 406) dX11_init_406 rfl ?_
  refine G_sipush (pc := 407) dX11_init_407 (by decide +kernel) (by decide) ?_
  refine N_newI (pc := 410) (n := 500) (L := 189) (sh' := (SH.take 190)) dX11_init_410 rfl (Nat.le_of_ble_eq_true rfl) (by decide +kernel) (by decide +kernel) (by decide +kernel) (by decide +kernel) ?_
  have c100 := ci_z c99 (by decide +kernel) (by decide) (s' := 190) (by decide)
  generalize jn m99 189 zr = m100 at c100 ⊢
  clear c99
  refine G_putF (pc := 412) dX11_init_412 fl_X11_163 ff_X11_66 rfl rfl (⟨by decide, (by decide +kernel)⟩ : jat _ 139 (11 + 10) 105) (by decide) (fz_X11_66 _) ?_
  have c101 := ci_put (k' := 66) (x := 189) 66 c100 rfl (l' := [0, 140, 0, 141, 142, 143, 144, 0, 0, -1, 0, 0, 0, 0, 145, 146, 147, 148, 149, 150, 151, 152, 153, 154, 155, 156, 157, 158, 159, 160, 161, 162, 163, 164, 165, 166, 167, 168, 169, 170, 171, 0, 172, 173, 0, 174, 175, 176, 177, 178, 0, 179, 0, 180, 181, 182, 0, 183, 184, 185, 0, 186, 187, 188, 0, 0, 189, 0, 0, 0, -1, -1, -1, -1, -1, 0, -1, -1, -1, -1, -1, -1, -1, -1, -1, -1, 0, -1, 0, 0, -1, -1, -1, -1, -1, -1, -1, -1, -1, -1, -1, -1, 0, 0, 0]) rfl
  generalize jup m100 139 66 189 = m101 at c101 ⊢
  clear c100
  refine G_aloadn (pc := 415) dX11_init_415 rfl ?_
  refine G_bipush (pc := 416) dX11_init_416 (by decide +kernel) (by decide) ?_
  refine N_newZ (pc := 418) (n := 24) (L := 190) (sh' := (SH.take 191)) dX11_init_418 rfl (Nat.le_of_ble_eq_true rfl) (by decide +kernel) (by decide +kernel) (by decide +kernel) (by decide +kernel) ?_
  have c102 := ci_z c101 (by decide +kernel) (by decide) (s' := 191) (by decide)
  generalize jn m101 190 zr = m102 at c102 ⊢
  clear c101
  refine G_putF (pc := 420) dX11_init_420 fl_X11_166 ff_X11_70 rfl rfl (⟨by decide, (by decide +kernel)⟩ : jat _ 139 (11 + 10) 105) (by decide) (fz_X11_70 _) ?_
  have c103 := ci_put (k' := 70) (x := 190) 70 c102 rfl (l' := [0, 140, 0, 141, 142, 143, 144, 0, 0, -1, 0, 0, 0, 0, 145, 146, 147, 148, 149, 150, 151, 152, 153, 154, 155, 156, 157, 158, 159, 160, 161, 162, 163, 164, 165, 166, 167, 168, 169, 170, 171, 0, 172, 173, 0, 174, 175, 176, 177, 178, 0, 179, 0, 180, 181, 182, 0, 183, 184, 185, 0, 186, 187, 188, 0, 0, 189, 0, 0, 0, 190, -1, -1, -1, -1, 0, -1, -1, -1, -1, -1, -1, -1, -1, -1, -1, 0, -1, 0, 0, -1, -1, -1, -1, -1, -1, -1, -1, -1, -1, -1, -1, 0, 0, 0]) rfl
  generalize jup m102 139 70 190 = m103 at c103 ⊢
  clear c102
  refine G_aloadn (pc := 423) dX11_init_423 rfl ?_
  refine G_sipush (pc := 424) dX11_init_424 (by decide +kernel) (by decide) ?_
  refine N_newI (pc := 427) (n := 432) (L := 191) (sh' := (SH.take 192)) dX11_init_427 rfl (Nat.le_of_ble_eq_true rfl) (by decide +kernel) (by decide +kernel) (by decide +kernel) (by decide +kernel) ?_
  have c104 := ci_z c103 (by decide +kernel) (by decide) (s' := 192) (by decide)
  generalize jn m103 191 zr = m104 at c104 ⊢
  clear c103
  refine G_putF (pc := 429) dX11_init_429 fl_X11_169 ff_X11_71 rfl rfl (⟨by decide, (by decide +kernel)⟩ : jat _ 139 (11 + 10) 105) (by decide) (fz_X11_71 _) ?_
  have c105 := ci_put (k' := 71) (x := 191) 71 c104 rfl (l' := [0, 140, 0, 141, 142, 143, 144, 0, 0, -1, 0, 0, 0, 0, 145, 146, 147, 148, 149, 150, 151, 152, 153, 154, 155, 156, 157, 158, 159, 160, 161, 162, 163, 164, 165, 166, 167, 168, 169, 170, 171, 0, 172, 173, 0, 174, 175, 176, 177, 178, 0, 179, 0, 180, 181, 182, 0, 183, 184, 185, 0, 186, 187, 188, 0, 0, 189, 0, 0, 0, 190, 191, -1, -1, -1, 0, -1, -1, -1, -1, -1, -1, -1, -1, -1, -1, 0, -1, 0, 0, -1, -1, -1, -1, -1, -1, -1, -1, -1, -1, -1, -1, 0, 0, 0]) rfl
  generalize jup m104 139 71 191 = m105 at c105 ⊢
  clear c104
  refine G_aloadn (pc := 432) dX11_init_432 rfl ?_
  refine G_iconst (pc := 433) dX11_init_433 (by decide) ?_
  refine N_newI (pc := 434) (n := 5) (L := 192) (sh' := (SH.take 193)) dX11_init_434 rfl (Nat.le_of_ble_eq_true rfl) (by decide +kernel) (by decide +kernel) (by decide +kernel) (by decide +kernel) ?_
  have c106 := ci_z c105 (by decide +kernel) (by decide) (s' := 193) (by decide)
  generalize jn m105 192 zr = m106 at c106 ⊢
  clear c105
  refine G_putF (pc := 436) dX11_init_436 fl_X11_172 ff_X11_72 rfl rfl (⟨by decide, (by decide +kernel)⟩ : jat _ 139 (11 + 10) 105) (by decide) (fz_X11_72 _) ?_
  have c107 := ci_put (k' := 72) (x := 192) 72 c106 rfl (l' := [0, 140, 0, 141, 142, 143, 144, 0, 0, -1, 0, 0, 0, 0, 145, 146, 147, 148, 149, 150, 151, 152, 153, 154, 155, 156, 157, 158, 159, 160, 161, 162, 163, 164, 165, 166, 167, 168, 169, 170, 171, 0, 172, 173, 0, 174, 175, 176, 177, 178, 0, 179, 0, 180, 181, 182, 0, 183, 184, 185, 0, 186, 187, 188, 0, 0, 189, 0, 0, 0, 190, 191, 192, -1, -1, 0, -1, -1, -1, -1, -1, -1, -1, -1, -1, -1, 0, -1, 0, 0, -1, -1, -1, -1, -1, -1, -1, -1, -1, -1, -1, -1, 0, 0, 0]) rfl
  generalize jup m106 139 72 192 = m107 at c107 ⊢
  clear c106
  refine G_aloadn (pc := 439) dX11_init_439 rfl ?_
  refine G_sipush (pc := 440) dX11_init_440 (by decide +kernel) (by decide) ?_
  refine N_newI (pc := 443) (n := 500) (L := 193) (sh' := (SH.take 194)) dX11_init_443 rfl (Nat.le_of_ble_eq_true rfl) (by decide +kernel) (by decide +kernel) (by decide +kernel) (by decide +kernel) ?_
  have c108 := ci_z c107 (by decide +kernel) (by decide) (s' := 194) (by decide)
  generalize jn m107 193 zr = m108 at c108 ⊢
  clear c107
  refine G_putF (pc := 445) dX11_init_445 fl_X11_175 ff_X11_73 rfl rfl (⟨by decide, (by decide +kernel)⟩ : jat _ 139 (11 + 10) 105) (by decide) (fz_X11_73 _) ?_
  have c109 := ci_put (k' := 73) (x := 193) 73 c108 rfl (l' := [0, 140, 0, 141, 142, 143, 144, 0, 0, -1, 0, 0, 0, 0, 145, 146, 147, 148, 149, 150, 151, 152, 153, 154, 155, 156, 157, 158, 159, 160, 161, 162, 163, 164, 165, 166, 167, 168, 169, 170, 171, 0, 172, 173, 0, 174, 175, 176, 177, 178, 0, 179, 0, 180, 181, 182, 0, 183, 184, 185, 0, 186, 187, 188, 0, 0, 189, 0, 0, 0, 190, 191, 192, 193, -1, 0, -1, -1, -1, -1, -1, -1, -1, -1, -1, -1, 0, -1, 0, 0, -1, -1, -1, -1, -1, -1, -1, -1, -1, -1, -1, -1, 0, 0, 0]) rfl
  generalize jup m108 139 73 193 = m109 at c109 ⊢
  clear c108
  refine G_aloadn (pc := 448) dX11_init_448 rfl ?_
  refine G_bipush (pc := 449) dX11_init_449 (by decide +kernel) (by decide) ?_
  refine N_newZ (pc := 451) (n := 20) (L := 194) (sh' := (SH.take 195)) dX11_init_451 rfl (Nat.le_of_ble_eq_true rfl) (by decide +kernel) (by decide +kernel) (by decide +kernel) (by decide +kernel) ?_
  have c110 := ci_z c109 (by decide +kernel) (by decide) (s' := 195) (by decide)
  generalize jn m109 194 zr = m110 at c110 ⊢
  clear c109
  refine G_putF (pc := 453) dX11_init_453 fl_X11_178 ff_X11_74 rfl rfl (⟨by decide, (by decide +kernel)⟩ : jat _ 139 (11 + 10) 105) (by decide) (fz_X11_74 _) ?_
  have c111 := ci_put (k' := 74) (x := 194) 74 c110 rfl (l' := [0, 140, 0, 141, 142, 143, 144, 0, 0, -1, 0, 0, 0, 0, 145, 146, 147, 148, 149, 150, 151, 152, 153, 154, 155, 156, 157, 158, 159, 160, 161, 162, 163, 164, 165, 166, 167, 168, 169, 170, 171, 0, 172, 173, 0, 174, 175, 176, 177, 178, 0, 179, 0, 180, 181, 182, 0, 183, 184, 185, 0, 186, 187, 188, 0, 0, 189, 0, 0, 0, 190, 191, 192, 193, 194, 0, -1, -1, -1, -1, -1, -1, -1, -1, -1, -1, 0, -1, 0, 0, -1, -1, -1, -1, -1, -1, -1, -1, -1, -1, -1, -1, 0, 0, 0]) rfl
  generalize jup m110 139 74 194 = m111 at c111 ⊢
  clear c110
  refine G_aloadn (pc := 456) dX11_init_456 rfl ?_
  refine G_bipush (pc := 457) dX11_init_457 (by decide +kernel) (by decide) ?_
  refine N_newI (pc := 459) (n := 6) (L := 195) (sh' := (SH.take 196)) dX11_init_459 rfl (Nat.le_of_ble_eq_true rfl) (by decide +kernel) (by decide +kernel) (by decide +kernel) (by decide +kernel) ?_
  have c112 := ci_z c111 (by decide +kernel) (by decide) (s' := 196) (by decide)
  generalize jn m111 195 zr = m112 at c112 ⊢
  clear c111
  refine G_putF (pc := 461) dX11_init_461 fl_X11_181 ff_X11_76 rfl rfl (⟨by decide, (by decide +kernel)⟩ : jat _ 139 (11 + 10) 105) (by decide) (fz_X11_76 _) ?_
  have c113 := ci_put (k' := 76) (x := 195) 76 c112 rfl (l' := [0, 140, 0, 141, 142, 143, 144, 0, 0, -1, 0, 0, 0, 0, 145, 146, 147, 148, 149, 150, 151, 152, 153, 154, 155, 156, 157, 158, 159, 160, 161, 162, 163, 164, 165, 166, 167, 168, 169, 170, 171, 0, 172, 173, 0, 174, 175, 176, 177, 178, 0, 179, 0, 180, 181, 182, 0, 183, 184, 185, 0, 186, 187, 188, 0, 0, 189, 0, 0, 0, 190, 191, 192, 193, 194, 0, 195, -1, -1, -1, -1, -1, -1, -1, -1, -1, 0, -1, 0, 0, -1, -1, -1, -1, -1, -1, -1, -1, -1, -1, -1, -1, 0, 0, 0]) rfl
  generalize jup m112 139 76 195 = m113 at c113 ⊢
  clear c112
  refine G_aloadn (pc := 464) dX11_init_464 rfl ?_
  refine G_bipush (pc := 465) dX11_init_465 (by decide +kernel) (by decide) ?_
  refine N_newI (pc := 467) (n := 6) (L := 196) (sh' := (SH.take 197)) dX11_init_467 rfl (Nat.le_of_ble_eq_true rfl) (by decide +kernel) (by decide +kernel) (by decide +kernel) (by decide +kernel) ?_
  have c114 := ci_z c113 (by decide +kernel) (by decide) (s' := 197) (by decide)
  generalize jn m113 196 zr = m114 at c114 ⊢
  clear c113
  refine G_putF (pc := 469) dX11_init_469 fl_X11_184 ff_X11_77 rfl rfl (⟨by decide, (by decide +kernel)⟩ : jat _ 139 (11 + 10) 105) (by decide) (fz_X11_77 _) ?_
  have c115 := ci_put (k' := 77) (x := 196) 77 c114 rfl (l' := [0, 140, 0, 141, 142, 143, 144, 0, 0, -1, 0, 0, 0, 0, 145, 146, 147, 148, 149, 150, 151, 152, 153, 154, 155, 156, 157, 158, 159, 160, 161, 162, 163, 164, 165, 166, 167, 168, 169, 170, 171, 0, 172, 173, 0, 174, 175, 176, 177, 178, 0, 179, 0, 180, 181, 182, 0, 183, 184, 185, 0, 186, 187, 188, 0, 0, 189, 0, 0, 0, 190, 191, 192, 193, 194, 0, 195, 196, -1, -1, -1, -1, -1, -1, -1, -1, 0, -1, 0, 0, -1, -1, -1, -1, -1, -1, -1, -1, -1, -1, -1, -1, 0, 0, 0]) rfl
  generalize jup m114 139 77 196 = m115 at c115 ⊢
  clear c114
  refine G_aloadn (pc := 472) dX11_init_472 rfl ?_
  refine G_bipush (pc := 473) dX11_init_473 (by decide +kernel) (by decide) ?_
  refine N_newI (pc := 475) (n := 64) (L := 197) (sh' := (SH.take 198)) dX11_init_475 rfl (Nat.le_of_ble_eq_true rfl) (by decide +kernel) (by decide +kernel) (by decide +kernel) (by decide +kernel) ?_
  have c116 := ci_z c115 (by decide +kernel) (by decide) (s' := 198) (by decide)
  generalize jn m115 197 zr = m116 at c116 ⊢
  clear c115
  refine G_putF (pc := 477) dX11_init_477 fl_X11_187 ff_X11_78 rfl rfl (⟨by decide, (by decide +kernel)⟩ : jat _ 139 (11 + 10) 105) (by decide) (fz_X11_78 _) ?_
  have c117 := ci_put (k' := 78) (x := 197) 78 c116 rfl (l' := [0, 140, 0, 141, 142, 143, 144, 0, 0, -1, 0, 0, 0, 0, 145, 146, 147, 148, 149, 150, 151, 152, 153, 154, 155, 156, 157, 158, 159, 160, 161, 162, 163, 164, 165, 166, 167, 168, 169, 170, 171, 0, 172, 173, 0, 174, 175, 176, 177, 178, 0, 179, 0, 180, 181, 182, 0, 183, 184, 185, 0, 186, 187, 188, 0, 0, 189, 0, 0, 0, 190, 191, 192, 193, 194, 0, 195, 196, 197, -1, -1, -1, -1, -1, -1, -1, 0, -1, 0, 0, -1, -1, -1, -1, -1, -1, -1, -1, -1, -1, -1, -1, 0, 0, 0]) rfl
  generalize jup m116 139 78 197 = m117 at c117 ⊢
  clear c116
  refine G_aloadn (pc := 480) dX11_init_480 rfl ?_
  refine G_sipush (pc := 481) dX11_init_481 (by decide +kernel) (by decide) ?_
  refine N_newI (pc := 484) (n := 384) (L := 198) (sh' := (SH.take 199)) dX11_init_484 rfl (Nat.le_of_ble_eq_true rfl) (by decide +kernel) (by decide +kernel) (by decide +kernel) (by decide +kernel) ?_
  have c118 := ci_z c117 (by decide +kernel) (by decide) (s' := 199) (by decide)
  generalize jn m117 198 zr = m118 at c118 ⊢
  clear c117
  refine G_putF (pc := 486) dX11_init_486 fl_X11_190 ff_X11_79 rfl rfl (⟨by decide, (by decide +kernel)⟩ : jat _ 139 (11 + 10) 105) (by decide) (fz_X11_79 _) ?_
  have c119 := ci_put (k' := 79) (x := 198) 79 c118 rfl (l' := [0, 140, 0, 141, 142, 143, 144, 0, 0, -1, 0, 0, 0, 0, 145, 146, 147, 148, 149, 150, 151, 152, 153, 154, 155, 156, 157, 158, 159, 160, 161, 162, 163, 164, 165, 166, 167, 168, 169, 170, 171, 0, 172, 173, 0, 174, 175, 176, 177, 178, 0, 179, 0, 180, 181, 182, 0, 183, 184, 185, 0, 186, 187, 188, 0, 0, 189, 0, 0, 0, 190, 191, 192, 193, 194, 0, 195, 196, 197, 198, -1, -1, -1, -1, -1, -1, 0, -1, 0, 0, -1, -1, -1, -1, -1, -1, -1, -1, -1, -1, -1, -1, 0, 0, 0]) rfl
  generalize jup m118 139 79 198 = m119 at c119 ⊢
  clear c118
  refine G_aloadn (pc := 489) dX11_init_489 rfl ?_
  refine G_bipush (pc := 490) dX11_init_490 (by decide +kernel) (by decide) ?_
  refine N_newZ (pc := 492) (n := 64) (L := 199) (sh' := (SH.take 200)) dX11_init_492 rfl (Nat.le_of_ble_eq_true rfl) (by decide +kernel) (by decide +kernel) (by decide +kernel) (by decide +kernel) ?_
  have c120 := ci_z c119 (by decide +kernel) (by decide) (s' := 200) (by decide)
  generalize jn m119 199 zr = m120 at c120 ⊢
  clear c119
  refine G_putF (pc := 494) dX11_init_494 fl_X11_193 ff_X11_80 rfl rfl (⟨by decide, (by decide +kernel)⟩ : jat _ 139 (11 + 10) 105) (by decide) (fz_X11_80 _) ?_
  have c121 := ci_put (k' := 80) (x := 199) 80 c120 rfl (l' := [0, 140, 0, 141, 142, 143, 144, 0, 0, -1, 0, 0, 0, 0, 145, 146, 147, 148, 149, 150, 151, 152, 153, 154, 155, 156, 157, 158, 159, 160, 161, 162, 163, 164, 165, 166, 167, 168, 169, 170, 171, 0, 172, 173, 0, 174, 175, 176, 177, 178, 0, 179, 0, 180, 181, 182, 0, 183, 184, 185, 0, 186, 187, 188, 0, 0, 189, 0, 0, 0, 190, 191, 192, 193, 194, 0, 195, 196, 197, 198, 199, -1, -1, -1, -1, -1, 0, -1, 0, 0, -1, -1, -1, -1, -1, -1, -1, -1, -1, -1, -1, -1, 0, 0, 0]) rfl
  generalize jup m120 139 80 199 = m121 at c121 ⊢
  clear c120
  refine G_aloadn (pc := 497) dX11_init_497 rfl ?_
  refine G_bipush (pc := 498) dX11_init_498 (by decide +kernel) (by decide) ?_
  refine N_newI (pc := 500) (n := 64) (L := 200) (sh' := (SH.take 201)) dX11_init_500 rfl (Nat.le_of_ble_eq_true rfl) (by decide +kernel) (by decide +kernel) (by decide +kernel) (by decide +kernel) ?_
  have c122 := ci_z c121 (by decide +kernel) (by decide) (s' := 201) (by decide)
  generalize jn m121 200 zr = m122 at c122 ⊢
  clear c121
  refine G_putF (pc := 502) dX11_init_502 fl_X11_196 ff_X11_81 rfl rfl (⟨by decide, (by decide +kernel)⟩ : jat _ 139 (11 + 10) 105) (by decide) (fz_X11_81 _) ?_
  have c123 := ci_put (k' := 81) (x := 200) 81 c122 rfl (l' := [0, 140, 0, 141, 142, 143, 144, 0, 0, -1, 0, 0, 0, 0, 145, 146, 147, 148, 149, 150, 151, 152, 153, 154, 155, 156, 157, 158, 159, 160, 161, 162, 163, 164, 165, 166, 167, 168, 169, 170, 171, 0, 172, 173, 0, 174, 175, 176, 177, 178, 0, 179, 0, 180, 181, 182, 0, 183, 184, 185, 0, 186, 187, 188, 0, 0, 189, 0, 0, 0, 190, 191, 192, 193, 194, 0, 195, 196, 197, 198, 199, 200, -1, -1, -1, -1, 0, -1, 0, 0, -1, -1, -1, -1, -1, -1, -1, -1, -1, -1, -1, -1, 0, 0, 0]) rfl
  generalize jup m122 139 81 200 = m123 at c123 ⊢
  clear c122
  refine G_aloadn (pc := 505) dX11_init_505 rfl ?_
  refine G_bipush (pc := 506) dX11_init_506 (by decide +kernel) (by decide) ?_
  refine N_newI (pc := 508) (n := 20) (L := 201) (sh' := (SH.take 202)) dX11_init_508 rfl (Nat.le_of_ble_eq_true rfl) (by decide +kernel) (by decide +kernel) (by decide +kernel) (by decide +kernel) ?_
  have c124 := ci_z c123 (by decide +kernel) (by decide) (s' := 202) (by decide)
  generalize jn m123 201 zr = m124 at c124 ⊢
  clear c123
  refine G_putF (pc := 510) dX11_init_510 fl_X11_199 ff_X11_82 rfl rfl (⟨by decide, (by decide +kernel)⟩ : jat _ 139 (11 + 10) 105) (by decide) (fz_X11_82 _) ?_
  have c125 := ci_put (k' := 82) (x := 201) 82 c124 rfl (l' := [0, 140, 0, 141, 142, 143, 144, 0, 0, -1, 0, 0, 0, 0, 145, 146, 147, 148, 149, 150, 151, 152, 153, 154, 155, 156, 157, 158, 159, 160, 161, 162, 163, 164, 165, 166, 167, 168, 169, 170, 171, 0, 172, 173, 0, 174, 175, 176, 177, 178, 0, 179, 0, 180, 181, 182, 0, 183, 184, 185, 0, 186, 187, 188, 0, 0, 189, 0, 0, 0, 190, 191, 192, 193, 194, 0, 195, 196, 197, 198, 199, 200, 201, -1, -1, -1, 0, -1, 0, 0, -1, -1, -1, -1, -1, -1, -1, -1, -1, -1, -1, -1, 0, 0, 0]) rfl
  generalize jup m124 139 82 201 = m125 at c125 ⊢
  clear c124
  refine G_aloadn (pc := 513) dX11_init_513 rfl ?_
  refine G_bipush (pc := 514) dX11_init_514 (by decide +kernel) (by decide) ?_
  refine N_newI (pc := 516) (n := 6) (L := 202) (sh' := (SH.take 203)) dX11_init_516 rfl (Nat.le_of_ble_eq_true rfl) (by decide +kernel) (by decide +kernel) (by decide +kernel) (by decide +kernel) ?_
  have c126 := ci_z c125 (by decide +kernel) (by decide) (s' := 203) (by decide)
  generalize jn m125 202 zr = m126 at c126 ⊢
  clear c125
  refine G_putF (pc := 518) dX11_init_518 fl_X11_202 ff_X11_83 rfl rfl (⟨by decide, (by decide +kernel)⟩ : jat _ 139 (11 + 10) 105) (by decide) (fz_X11_83 _) ?_
  have c127 := ci_put (k' := 83) (x := 202) 83 c126 rfl (l' := [0, 140, 0, 141, 142, 143, 144, 0, 0, -1, 0, 0, 0, 0, 145, 146, 147, 148, 149, 150, 151, 152, 153, 154, 155, 156, 157, 158, 159, 160, 161, 162, 163, 164, 165, 166, 167, 168, 169, 170, 171, 0, 172, 173, 0, 174, 175, 176, 177, 178, 0, 179, 0, 180, 181, 182, 0, 183, 184, 185, 0, 186, 187, 188, 0, 0, 189, 0, 0, 0, 190, 191, 192, 193, 194, 0, 195, 196, 197, 198, 199, 200, 201, 202, -1, -1, 0, -1, 0, 0, -1, -1, -1, -1, -1, -1, -1, -1, -1, -1, -1, -1, 0, 0, 0]) rfl
  generalize jup m126 139 83 202 = m127 at c127 ⊢
  clear c126
  refine G_aloadn (pc := 521) dX11_init_521 rfl ?_
  refine G_bipush (pc := 522) dX11_init_522 (by decide +kernel) (by decide) ?_
  refine N_newI (pc := 524) (n := 64) (L := 203) (sh' := (SH.take 204)) dX11_init_524 rfl (Nat.le_of_ble_eq_true rfl) (by decide +kernel) (by decide +kernel) (by decide +kernel) (by decide +kernel) ?_
  have c128 := ci_z c127 (by decide +kernel) (by decide) (s' := 204) (by decide)
  generalize jn m127 203 zr = m128 at c128 ⊢
  clear c127
  refine G_putF (pc := 526) dX11_init_526 fl_X11_205 ff_X11_84 rfl rfl (⟨by decide, (by decide +kernel)⟩ : jat _ 139 (11 + 10) 105) (by decide) (fz_X11_84 _) ?_
  have c129 := ci_put (k' := 84) (x := 203) 84 c128 rfl (l' := [0, 140, 0, 141, 142, 143, 144, 0, 0, -1, 0, 0, 0, 0, 145, 146, 147, 148, 149, 150, 151, 152, 153, 154, 155, 156, 157, 158, 159, 160, 161, 162, 163, 164, 165, 166, 167, 168, 169, 170, 171, 0, 172, 173, 0, 174, 175, 176, 177, 178, 0, 179, 0, 180, 181, 182, 0, 183, 184, 185, 0, 186, 187, 188, 0, 0, 189, 0, 0, 0, 190, 191, 192, 193, 194, 0, 195, 196, 197, 198, 199, 200, 201, 202, 203, -1, 0, -1, 0, 0, -1, -1, -1, -1, -1, -1, -1, -1, -1, -1, -1, -1, 0, 0, 0]) rfl
  generalize jup m128 139 84 203 = m129 at c129 ⊢
  clear c128
  refine G_aloadn (pc := 529) dX11_init_529 rfl ?_
  refine G_bipush (pc := 530) dX11_init_530 (by decide +kernel) (by decide) ?_
  refine N_newI (pc := 532) (n := 64) (L := 204) (sh' := (SH.take 205)) dX11_init_532 rfl (Nat.le_of_ble_eq_true rfl) (by decide +kernel) (by decide +kernel) (by decide +kernel) (by decide +kernel) ?_
  have c130 := ci_z c129 (by decide +kernel) (by decide) (s' := 205) (by decide)
  generalize jn m129 204 zr = m130 at c130 ⊢
  clear c129
  refine G_putF (pc := 534) dX11_init_534 fl_X11_208 ff_X11_85 rfl rfl (⟨by decide, (by decide +kernel)⟩ : jat _ 139 (11 + 10) 105) (by decide) (fz_X11_85 _) ?_
  have c131 := ci_put (k' := 85) (x := 204) 85 c130 rfl (l' := [0, 140, 0, 141, 142, 143, 144, 0, 0, -1, 0, 0, 0, 0, 145, 146, 147, 148, 149, 150, 151, 152, 153, 154, 155, 156, 157, 158, 159, 160, 161, 162, 163, 164, 165, 166, 167, 168, 169, 170, 171, 0, 172, 173, 0, 174, 175, 176, 177, 178, 0, 179, 0, 180, 181, 182, 0, 183, 184, 185, 0, 186, 187, 188, 0, 0, 189, 0, 0, 0, 190, 191, 192, 193, 194, 0, 195, 196, 197, 198, 199, 200, 201, 202, 203, 204, 0, -1, 0, 0, -1, -1, -1, -1, -1, -1, -1, -1, -1, -1, -1, -1, 0, 0, 0]) rfl
  generalize jup m130 139 85 204 = m131 at c131 ⊢
  clear c130
  refine G_aloadn (pc := 537) dX11_init_537 rfl ?_
  refine G_bipush (pc := 538) dX11_init_538 (by decide +kernel) (by decide) ?_
  refine N_newI (pc := 540) (n := 6) (L := 205) (sh' := (SH.take 206)) dX11_init_540 rfl (Nat.le_of_ble_eq_true rfl) (by decide +kernel) (by decide +kernel) (by decide +kernel) (by decide +kernel) ?_
  have c132 := ci_z c131 (by decide +kernel) (by decide) (s' := 206) (by decide)
  generalize jn m131 205 zr = m132 at c132 ⊢
  clear c131
  refine G_putF (pc := 542) dX11_init_542 fl_X11_211 ff_X11_87 rfl rfl (⟨by decide, (by decide +kernel)⟩ : jat _ 139 (11 + 10) 105) (by decide) (fz_X11_87 _) ?_
  have c133 := ci_put (k' := 87) (x := 205) 87 c132 rfl (l' := [0, 140, 0, 141, 142, 143, 144, 0, 0, -1, 0, 0, 0, 0, 145, 146, 147, 148, 149, 150, 151, 152, 153, 154, 155, 156, 157, 158, 159, 160, 161, 162, 163, 164, 165, 166, 167, 168, 169, 170, 171, 0, 172, 173, 0, 174, 175, 176, 177, 178, 0, 179, 0, 180, 181, 182, 0, 183, 184, 185, 0, 186, 187, 188, 0, 0, 189, 0, 0, 0, 190, 191, 192, 193, 194, 0, 195, 196, 197, 198, 199, 200, 201, 202, 203, 204, 0, 205, 0, 0, -1, -1, -1, -1, -1, -1, -1, -1, -1, -1, -1, -1, 0, 0, 0]) rfl
  generalize jup m132 139 87 205 = m133 at c133 ⊢
  clear c132
  refine G_aloadn (pc := 545) dX11_init_545 rfl ?_
  refine G_bipush (pc := 546) dX11_init_546 (by decide +kernel) (by decide) ?_
  refine N_newI (pc := 548) (n := 18) (L := 206) (sh' := (SH.take 207)) dX11_init_548 rfl (Nat.le_of_ble_eq_true rfl) (by decide +kernel) (by decide +kernel) (by decide +kernel) (by decide +kernel) ?_
  have c134 := ci_z c133 (by decide +kernel) (by decide) (s' := 207) (by decide)
  generalize jn m133 206 zr = m134 at c134 ⊢
  clear c133
  refine G_putF (pc := 550) dX11_init_550 fl_X11_214 ff_X11_90 rfl rfl (⟨by decide, (by decide +kernel)⟩ : jat _ 139 (11 + 10) 105) (by decide) (fz_X11_90 _) ?_
  have c135 := ci_put (k' := 90) (x := 206) 90 c134 rfl (l' := [0, 140, 0, 141, 142, 143, 144, 0, 0, -1, 0, 0, 0, 0, 145, 146, 147, 148, 149, 150, 151, 152, 153, 154, 155, 156, 157, 158, 159, 160, 161, 162, 163, 164, 165, 166, 167, 168, 169, 170, 171, 0, 172, 173, 0, 174, 175, 176, 177, 178, 0, 179, 0, 180, 181, 182, 0, 183, 184, 185, 0, 186, 187, 188, 0, 0, 189, 0, 0, 0, 190, 191, 192, 193, 194, 0, 195, 196, 197, 198, 199, 200, 201, 202, 203, 204, 0, 205, 0, 0, 206, -1, -1, -1, -1, -1, -1, -1, -1, -1, -1, -1, 0, 0, 0]) rfl
  generalize jup m134 139 90 206 = m135 at c135 ⊢
  clear c134
  refine G_aloadn (pc := 553) dX11_init_553 rfl ?_
  refine G_bipush (pc := 554) dX11_init_554 (by decide +kernel) (by decide) ?_
  refine N_newI (pc := 556) (n := 18) (L := 207) (sh' := (SH.take 208)) dX11_init_556 rfl (Nat.le_of_ble_eq_true rfl) (by decide +kernel) (by decide +kernel) (by decide +kernel) (by decide +kernel) ?_
  have c136 := ci_z c135 (by decide +kernel) (by decide) (s' := 208) (by decide)
  generalize jn m135 207 zr = m136 at c136 ⊢
  clear c135
  refine G_putF (pc := 558) dX11_init_558 fl_X11_217 ff_X11_91 rfl rfl (⟨by decide, (by decide +kernel)⟩ : jat _ 139 (11 + 10) 105) (by decide) (fz_X11_91 _) ?_
  have c137 := ci_put (k' := 91) (x := 207) 91 c136 rfl (l' := [0, 140, 0, 141, 142, 143, 144, 0, 0, -1, 0, 0, 0, 0, 145, 146, 147, 148, 149, 150, 151, 152, 153, 154, 155, 156, 157, 158, 159, 160, 161, 162, 163, 164, 165, 166, 167, 168, 169, 170, 171, 0, 172, 173, 0, 174, 175, 176, 177, 178, 0, 179, 0, 180, 181, 182, 0, 183, 184, 185, 0, 186, 187, 188, 0, 0, 189, 0, 0, 0, 190, 191, 192, 193, 194, 0, 195, 196, 197, 198, 199, 200, 201, 202, 203, 204, 0, 205, 0, 0, 206, 207, -1, -1, -1, -1, -1, -1, -1, -1, -1, -1, 0, 0, 0]) rfl
  generalize jup m136 139 91 207 = m137 at c137 ⊢
  clear c136
  refine G_aloadn (pc := 561) dX11_init_561 rfl ?_
  refine G_bipush (pc := 562) dX11_init_562 (by decide +kernel) (by decide) ?_
  refine N_newI (pc := 564) (n := 18) (L := 208) (sh' := (SH.take 209)) dX11_init_564 rfl (Nat.le_of_ble_eq_true rfl) (by decide +kernel) (by decide +kernel) (by decide +kernel) (by decide +kernel) ?_
  have c138 := ci_z c137 (by decide +kernel) (by decide) (s' := 209) (by decide)
  generalize jn m137 208 zr = m138 at c138 ⊢
  clear c137
  refine G_putF (pc := 566) dX11_init_566 fl_X11_220 ff_X11_92 rfl rfl (⟨by decide, (by decide +kernel)⟩ : jat _ 139 (11 + 10) 105) (by decide) (fz_X11_92 _) ?_
  have c139 := ci_put (k' := 92) (x := 208) 92 c138 rfl (l' := [0, 140, 0, 141, 142, 143, 144, 0, 0, -1, 0, 0, 0, 0, 145, 146, 147, 148, 149, 150, 151, 152, 153, 154, 155, 156, 157, 158, 159, 160, 161, 162, 163, 164, 165, 166, 167, 168, 169, 170, 171, 0, 172, 173, 0, 174, 175, 176, 177, 178, 0, 179, 0, 180, 181, 182, 0, 183, 184, 185, 0, 186, 187, 188, 0, 0, 189, 0, 0, 0, 190, 191, 192, 193, 194, 0, 195, 196, 197, 198, 199, 200, 201, 202, 203, 204, 0, 205, 0, 0, 206, 207, 208, -1, -1, -1, -1, -1, -1, -1, -1, -1, 0, 0, 0]) rfl
  generalize jup m138 139 92 208 = m139 at c139 ⊢
  clear c138
  refine G_aloadn (pc := 569) dX11_init_569 rfl ?_
  refine G_iconst (pc := 570) dX11_init_570 (by decide) ?_
  refine N_newI (pc := 571) (n := 3) (L := 209) (sh' := (SH.take 210)) dX11_init_571 rfl (Nat.le_of_ble_eq_true rfl) (by decide +kernel) (by decide +kernel) (by decide +kernel) (by decide +kernel) ?_
  have c140 := ci_z c139 (by decide +kernel) (by decide) (s' := 210) (by decide)
  generalize jn m139 209 zr = m140 at c140 ⊢
  clear c139
  refine G_putF (pc := 573) dX11_init_573 fl_X11_223 ff_X11_93 rfl rfl (⟨by decide, (by decide +kernel)⟩ : jat _ 139 (11 + 10) 105) (by decide) (fz_X11_93 _) ?_
  have c141 := ci_put (k' := 93) (x := 209) 93 c140 rfl (l' := [0, 140, 0, 141, 142, 143, 144, 0, 0, -1, 0, 0, 0, 0, 145, 146, 147, 148, 149, 150, 151, 152, 153, 154, 155, 156, 157, 158, 159, 160, 161, 162, 163, 164, 165, 166, 167, 168, 169, 170, 171, 0, 172, 173, 0, 174, 175, 176, 177, 178, 0, 179, 0, 180, 181, 182, 0, 183, 184, 185, 0, 186, 187, 188, 0, 0, 189, 0, 0, 0, 190, 191, 192, 193, 194, 0, 195, 196, 197, 198, 199, 200, 201, 202, 203, 204, 0, 205, 0, 0, 206, 207, 208, 209, -1, -1, -1, -1, -1, -1, -1, -1, 0, 0, 0]) rfl
  generalize jup m140 139 93 209 = m141 at c141 ⊢
  clear c140
  refine G_aloadn (pc := 576) dX11_init_576 rfl ?_
  refine G_bipush (pc := 577) dX11_init_577 (by decide +kernel) (by decide) ?_
  refine N_newI (pc := 579) (n := 18) (L := 210) (sh' := (SH.take 211)) dX11_init_579 rfl (Nat.le_of_ble_eq_true rfl) (by decide +kernel) (by decide +kernel) (by decide +kernel) (by decide +kernel) ?_
  have c142 := ci_z c141 (by decide +kernel) (by decide) (s' := 211) (by decide)
  generalize jn m141 210 zr = m142 at c142 ⊢
  clear c141
  refine G_putF (pc := 581) dX11_init_581 fl_X11_226 ff_X11_94 rfl rfl (⟨by decide, (by decide +kernel)⟩ : jat _ 139 (11 + 10) 105) (by decide) (fz_X11_94 _) ?_
  have c143 := ci_put (k' := 94) (x := 210) 94 c142 rfl (l' := [0, 140, 0, 141, 142, 143, 144, 0, 0, -1, 0, 0, 0, 0, 145, 146, 147, 148, 149, 150, 151, 152, 153, 154, 155, 156, 157, 158, 159, 160, 161, 162, 163, 164, 165, 166, 167, 168, 169, 170, 171, 0, 172, 173, 0, 174, 175, 176, 177, 178, 0, 179, 0, 180, 181, 182, 0, 183, 184, 185, 0, 186, 187, 188, 0, 0, 189, 0, 0, 0, 190, 191, 192, 193, 194, 0, 195, 196, 197, 198, 199, 200, 201, 202, 203, 204, 0, 205, 0, 0, 206, 207, 208, 209, 210, -1, -1, -1, -1, -1, -1, -1, 0, 0, 0]) rfl
  generalize jup m142 139 94 210 = m143 at c143 ⊢
  clear c142
  refine G_aloadn (pc := 584) dX11_init_584 rfl ?_
  refine G_bipush (pc := 585) dX11_init_585 (by decide +kernel) (by decide) ?_
  refine N_newZ (pc := 587) (n := 18) (L := 211) (sh' := (SH.take 212)) dX11_init_587 rfl (Nat.le_of_ble_eq_true rfl) (by decide +kernel) (by decide +kernel) (by decide +kernel) (by decide +kernel) ?_
  have c144 := ci_z c143 (by decide +kernel) (by decide) (s' := 212) (by decide)
  generalize jn m143 211 zr = m144 at c144 ⊢
  clear c143
  refine G_putF (pc := 589) dX11_init_589 fl_X11_229 ff_X11_95 rfl rfl (⟨by decide, (by decide +kernel)⟩ : jat _ 139 (11 + 10) 105) (by decide) (fz_X11_95 _) ?_
  have c145 := ci_put (k' := 95) (x := 211) 95 c144 rfl (l' := [0, 140, 0, 141, 142, 143, 144, 0, 0, -1, 0, 0, 0, 0, 145, 146, 147, 148, 149, 150, 151, 152, 153, 154, 155, 156, 157, 158, 159, 160, 161, 162, 163, 164, 165, 166, 167, 168, 169, 170, 171, 0, 172, 173, 0, 174, 175, 176, 177, 178, 0, 179, 0, 180, 181, 182, 0, 183, 184, 185, 0, 186, 187, 188, 0, 0, 189, 0, 0, 0, 190, 191, 192, 193, 194, 0, 195, 196, 197, 198, 199, 200, 201, 202, 203, 204, 0, 205, 0, 0, 206, 207, 208, 209, 210, 211, -1, -1, -1, -1, -1, -1, 0, 0, 0]) rfl
  generalize jup m144 139 95 211 = m145 at c145 ⊢
  clear c144
  refine G_aloadn (pc := 592) dX11_init_592 rfl ?_
  refine G_bipush (pc := 593) dX11_init_593 (by decide +kernel) (by decide) ?_
  refine N_newI (pc := 595) (n := 18) (L := 212) (sh' := (SH.take 213)) dX11_init_595 rfl (Nat.le_of_ble_eq_true rfl) (by decide +kernel) (by decide +kernel) (by decide +kernel) (by decide +kernel) ?_
  have c146 := ci_z c145 (by decide +kernel) (by decide) (s' := 213) (by decide)
  generalize jn m145 212 zr = m146 at c146 ⊢
  clear c145
  refine G_putF (pc := 597) dX11_init_597 fl_X11_232 ff_X11_96 rfl rfl (⟨by decide, (by decide +kernel)⟩ : jat _ 139 (11 + 10) 105) (by decide) (fz_X11_96 _) ?_
  have c147 := ci_put (k' := 96) (x := 212) 96 c146 rfl (l' := [0, 140, 0, 141, 142, 143, 144, 0, 0, -1, 0, 0, 0, 0, 145, 146, 147, 148, 149, 150, 151, 152, 153, 154, 155, 156, 157, 158, 159, 160, 161, 162, 163, 164, 165, 166, 167, 168, 169, 170, 171, 0, 172, 173, 0, 174, 175, 176, 177, 178, 0, 179, 0, 180, 181, 182, 0, 183, 184, 185, 0, 186, 187, 188, 0, 0, 189, 0, 0, 0, 190, 191, 192, 193, 194, 0, 195, 196, 197, 198, 199, 200, 201, 202, 203, 204, 0, 205, 0, 0, 206, 207, 208, 209, 210, 211, 212, -1, -1, -1, -1, -1, 0, 0, 0]) rfl
  generalize jup m146 139 96 212 = m147 at c147 ⊢
  clear c146
  refine G_aloadn (pc := 600) dX11_init_600 rfl ?_
  refine G_bipush (pc := 601) dX11_init_601 (by decide +kernel) (by decide) ?_
  refine N_newI (pc := 603) (n := 18) (L := 213) (sh' := (SH.take 214)) dX11_init_603 rfl (Nat.le_of_ble_eq_true rfl) (by decide +kernel) (by decide +kernel) (by decide +kernel) (by decide +kernel) ?_
  have c148 := ci_z c147 (by decide +kernel) (by decide) (s' := 214) (by decide)
  generalize jn m147 213 zr = m148 at c148 ⊢
  clear c147
  refine G_putF (pc := 605) dX11_init_605 fl_X11_235 ff_X11_97 rfl rfl (⟨by decide, (by decide +kernel)⟩ : jat _ 139 (11 + 10) 105) (by decide) (fz_X11_97 _) ?_
  have c149 := ci_put (k' := 97) (x := 213) 97 c148 rfl (l' := [0, 140, 0, 141, 142, 143, 144, 0, 0, -1, 0, 0, 0, 0, 145, 146, 147, 148, 149, 150, 151, 152, 153, 154, 155, 156, 157, 158, 159, 160, 161, 162, 163, 164, 165, 166, 167, 168, 169, 170, 171, 0, 172, 173, 0, 174, 175, 176, 177, 178, 0, 179, 0, 180, 181, 182, 0, 183, 184, 185, 0, 186, 187, 188, 0, 0, 189, 0, 0, 0, 190, 191, 192, 193, 194, 0, 195, 196, 197, 198, 199, 200, 201, 202, 203, 204, 0, 205, 0, 0, 206, 207, 208, 209, 210, 211, 212, 213, -1, -1, -1, -1, 0, 0, 0]) rfl
  generalize jup m148 139 97 213 = m149 at c149 ⊢
  clear c148
  refine G_aloadn (pc := 608) dX11_init_608 rfl ?_
  refine G_iconst (pc := 609) dX11_init_609 (by decide) ?_
  refine N_newI (pc := 610) (n := 3) (L := 214) (sh' := (SH.take 215)) dX11_init_610 rfl (Nat.le_of_ble_eq_true rfl) (by decide +kernel) (by decide +kernel) (by decide +kernel) (by decide +kernel) ?_
  have c150 := ci_z c149 (by decide +kernel) (by decide) (s' := 215) (by decide)
  generalize jn m149 214 zr = m150 at c150 ⊢
  clear c149
  refine G_putF (pc := 612) dX11_init_612 fl_X11_238 ff_X11_98 rfl rfl (⟨by decide, (by decide +kernel)⟩ : jat _ 139 (11 + 10) 105) (by decide) (fz_X11_98 _) ?_
  have c151 := ci_put (k' := 98) (x := 214) 98 c150 rfl (l' := [0, 140, 0, 141, 142, 143, 144, 0, 0, -1, 0, 0, 0, 0, 145, 146, 147, 148, 149, 150, 151, 152, 153, 154, 155, 156, 157, 158, 159, 160, 161, 162, 163, 164, 165, 166, 167, 168, 169, 170, 171, 0, 172, 173, 0, 174, 175, 176, 177, 178, 0, 179, 0, 180, 181, 182, 0, 183, 184, 185, 0, 186, 187, 188, 0, 0, 189, 0, 0, 0, 190, 191, 192, 193, 194, 0, 195, 196, 197, 198, 199, 200, 201, 202, 203, 204, 0, 205, 0, 0, 206, 207, 208, 209, 210, 211, 212, 213, 214, -1, -1, -1, 0, 0, 0]) rfl
  generalize jup m150 139 98 214 = m151 at c151 ⊢
  clear c150
  refine G_aloadn (pc := 615) dX11_init_615 rfl ?_
  refine G_sipush (pc := 616) dX11_init_616 (by decide +kernel) (by decide) ?_
  refine N_newI (pc := 619) (n := 1024) (L := 215) (sh' := (SH.take 216)) dX11_init_619 rfl (Nat.le_of_ble_eq_true rfl) (by decide +kernel) (by decide +kernel) (by decide +kernel) (by decide +kernel) ?_
  have c152 := ci_z c151 (by decide +kernel) (by decide) (s' := 216) (by decide)
  generalize jn m151 215 zr = m152 at c152 ⊢
  clear c151
  refine G_putF (pc := 621) dX11_init_621 fl_X11_241 ff_X11_99 rfl rfl (⟨by decide, (by decide +kernel)⟩ : jat _ 139 (11 + 10) 105) (by decide) (fz_X11_99 _) ?_
  have c153 := ci_put (k' := 99) (x := 215) 99 c152 rfl (l' := [0, 140, 0, 141, 142, 143, 144, 0, 0, -1, 0, 0, 0, 0, 145, 146, 147, 148, 149, 150, 151, 152, 153, 154, 155, 156, 157, 158, 159, 160, 161, 162, 163, 164, 165, 166, 167, 168, 169, 170, 171, 0, 172, 173, 0, 174, 175, 176, 177, 178, 0, 179, 0, 180, 181, 182, 0, 183, 184, 185, 0, 186, 187, 188, 0, 0, 189, 0, 0, 0, 190, 191, 192, 193, 194, 0, 195, 196, 197, 198, 199, 200, 201, 202, 203, 204, 0, 205, 0, 0, 206, 207, 208, 209, 210, 211, 212, 213, 214, 215, -1, -1, 0, 0, 0]) rfl
  generalize jup m152 139 99 215 = m153 at c153 ⊢
  clear c152
  refine G_aloadn (pc := 624) dX11_init_624 rfl ?_
  refine G_sipush (pc := 625) dX11_init_625 (by decide +kernel) (by decide) ?_
  refine N_newI (pc := 628) (n := 2816) (L := 216) (sh' := (SH.take 217)) dX11_init_628 rfl (Nat.le_of_ble_eq_true rfl) (by decide +kernel) (by decide +kernel) (by decide +kernel) (by decide +kernel) ?_
  have c154 := ci_z c153 (by decide +kernel) (by decide) (s' := 217) (by decide)
  generalize jn m153 216 zr = m154 at c154 ⊢
  clear c153
  refine G_putF (pc := 630) dX11_init_630 fl_X11_244 ff_X11_100 rfl rfl (⟨by decide, (by decide +kernel)⟩ : jat _ 139 (11 + 10) 105) (by decide) (fz_X11_100 _) ?_
  have c155 := ci_put (k' := 100) (x := 216) 100 c154 rfl (l' := [0, 140, 0, 141, 142, 143, 144, 0, 0, -1, 0, 0, 0, 0, 145, 146, 147, 148, 149, 150, 151, 152, 153, 154, 155, 156, 157, 158, 159, 160, 161, 162, 163, 164, 165, 166, 167, 168, 169, 170, 171, 0, 172, 173, 0, 174, 175, 176, 177, 178, 0, 179, 0, 180, 181, 182, 0, 183, 184, 185, 0, 186, 187, 188, 0, 0, 189, 0, 0, 0, 190, 191, 192, 193, 194, 0, 195, 196, 197, 198, 199, 200, 201, 202, 203, 204, 0, 205, 0, 0, 206, 207, 208, 209, 210, 211, 212, 213, 214, 215, 216, -1, 0, 0, 0]) rfl
  generalize jup m154 139 100 216 = m155 at c155 ⊢
  clear c154
  refine G_aloadn (pc := 633) dX11_init_633 rfl ?_
  refine G_bipush (pc := 634) dX11_init_634 (by decide +kernel) (by decide) ?_
  refine N_newI (pc := 636) (n := 12) (L := 217) (sh' := (SH.take 218)) dX11_init_636 rfl (Nat.le_of_ble_eq_true rfl) (by decide +kernel) (by decide +kernel) (by decide +kernel) (by decide +kernel) ?_
  have c156 := ci_z c155 (by decide +kernel) (by decide) (s' := 218) (by decide)
  generalize jn m155 217 zr = m156 at c156 ⊢
  clear c155
  refine G_putF (pc := 638) dX11_init_638 fl_X11_247 ff_X11_101 rfl rfl (⟨by decide, (by decide +kernel)⟩ : jat _ 139 (11 + 10) 105) (by decide) (fz_X11_101 _) ?_
  have c157 := ci_put (k' := 101) (x := 217) 101 c156 rfl (l' := [0, 140, 0, 141, 142, 143, 144, 0, 0, -1, 0, 0, 0, 0, 145, 146, 147, 148, 149, 150, 151, 152, 153, 154, 155, 156, 157, 158, 159, 160, 161, 162, 163, 164, 165, 166, 167, 168, 169, 170, 171, 0, 172, 173, 0, 174, 175, 176, 177, 178, 0, 179, 0, 180, 181, 182, 0, 183, 184, 185, 0, 186, 187, 188, 0, 0, 189, 0, 0, 0, 190, 191, 192, 193, 194, 0, 195, 196, 197, 198, 199, 200, 201, 202, 203, 204, 0, 205, 0, 0, 206, 207, 208, 209, 210, 211, 212, 213, 214, 215, 216, 217, 0, 0, 0]) rfl
  generalize jup m156 139 101 217 = m157 at c157 ⊢
  clear c156
  refine G_iconst (pc := 641) dX11_init_641 (by decide) ?_
  refine G_istnE (pc := 642) [(2, 139), (0, 0)] dX11_init_642 (Nat.le_of_ble_eq_true rfl) rfl rfl ?_
  refine G_iloadn (pc := 643) dX11_init_643 rfl ?_
  refine G_bipush (pc := 644) dX11_init_644 (by decide +kernel) (by decide) ?_
  refine G_icmp_ge (pc := 646) 662 dX11_init_646 rfl (fun c => absurd c (by decide)) (fun _ => ?_)
  refine G_aloadn (pc := 649) dX11_init_649 rfl ?_
  refine G_gete (pc := 650) dX11_init_650 fl_X11_151 (⟨by decide, (by decide +kernel)⟩ : jat _ 139 (11 + 10) 105) (by decide) (ci_at c157 59 185 rfl) ?_
  refine G_iloadn (pc := 653) dX11_init_653 rfl ?_
  refine G_iconst (pc := 654) dX11_init_654 (by decide) ?_
  refine G_iast (pc := 655) (n := 10) dX11_init_655 ⟨by decide, (by decide +kernel)⟩ (by decide) (by decide) ?_
  have c158 := ci_putA (i' := 0) (x := 1) 0 c157 (by decide) rfl (la' := [1, 0, 0, 0, 0, 0, 0, 0, 0, 0]) rfl
  generalize jup m157 185 0 1 = m158 at c158 ⊢
  clear c157
  refine G_iincE (pc := 656) [(2, 139), (0, 1)] dX11_init_656 rfl rfl (by decide) ?_
  refine G_goto (pc := 659) 643 dX11_init_659 rfl ?_
  refine G_iloadn (pc := 643) dX11_init_643 rfl ?_
  refine G_bipush (pc := 644) dX11_init_644 (by decide +kernel) (by decide) ?_
  refine G_icmp_ge (pc := 646) 662 dX11_init_646 rfl (fun c => absurd c (by decide)) (fun _ => ?_)
  refine G_aloadn (pc := 649) dX11_init_649 rfl ?_
  refine G_gete (pc := 650) dX11_init_650 fl_X11_151 (⟨by decide, (by decide +kernel)⟩ : jat _ 139 (11 + 10) 105) (by decide) (ci_at c158 59 185 rfl) ?_
  refine G_iloadn (pc := 653) dX11_init_653 rfl ?_
  refine G_iconst (pc := 654) dX11_init_654 (by decide) ?_
  refine G_iast (pc := 655) (n := 10) dX11_init_655 ⟨by decide, (by decide +kernel)⟩ (by decide) (by decide) ?_
  have c159 := ci_putA (i' := 1) (x := 1) 1 c158 (by decide) rfl (la' := [1, 1, 0, 0, 0, 0, 0, 0, 0, 0]) rfl
  generalize jup m158 185 1 1 = m159 at c159 ⊢
  clear c158
  refine G_iincE (pc := 656) [(2, 139), (0, 2)] dX11_init_656 rfl rfl (by decide) ?_
  refine G_goto (pc := 659) 643 dX11_init_659 rfl ?_
  refine G_iloadn (pc := 643) dX11_init_643 rfl ?_
  refine G_bipush (pc := 644) dX11_init_644 (by decide +kernel) (by decide) ?_
  refine G_icmp_ge (pc := 646) 662 dX11_init_646 rfl (fun c => absurd c (by decide)) (fun _ => ?_)
  refine G_aloadn (pc := 649) dX11_init_649 rfl ?_
  refine G_gete (pc := 650) dX11_init_650 fl_X11_151 (⟨by decide, (by decide +kernel)⟩ : jat _ 139 (11 + 10) 105) (by decide) (ci_at c159 59 185 rfl) ?_
  refine G_iloadn (pc := 653) dX11_init_653 rfl ?_
  refine G_iconst (pc := 654) dX11_init_654 (by decide) ?_
  refine G_iast (pc := 655) (n := 10) dX11_init_655 ⟨by decide, (by decide +kernel)⟩ (by decide) (by decide) ?_
  have c160 := ci_putA (i' := 2) (x := 1) 2 c159 (by decide) rfl (la' := [1, 1, 1, 0, 0, 0, 0, 0, 0, 0]) rfl
  generalize jup m159 185 2 1 = m160 at c160 ⊢
  clear c159
  refine G_iincE (pc := 656) [(2, 139), (0, 3)] dX11_init_656 rfl rfl (by decide) ?_
  refine G_goto (pc := 659) 643 dX11_init_659 rfl ?_
  refine G_iloadn (pc := 643) dX11_init_643 rfl ?_
  refine G_bipush (pc := 644) dX11_init_644 (by decide +kernel) (by decide) ?_
  refine G_icmp_ge (pc := 646) 662 dX11_init_646 rfl (fun c => absurd c (by decide)) (fun _ => ?_)
  refine G_aloadn (pc := 649) dX11_init_649 rfl ?_
  refine G_gete (pc := 650) dX11_init_650 fl_X11_151 (⟨by decide, (by decide +kernel)⟩ : jat _ 139 (11 + 10) 105) (by decide) (ci_at c160 59 185 rfl) ?_
  refine G_iloadn (pc := 653) dX11_init_653 rfl ?_
  refine G_iconst (pc := 654) dX11_init_654 (by decide) ?_
  refine G_iast (pc := 655) (n := 10) dX11_init_655 ⟨by decide, (by decide +kernel)⟩ (by decide) (by decide) ?_
  have c161 := ci_putA (i' := 3) (x := 1) 3 c160 (by decide) rfl (la' := [1, 1, 1, 1, 0, 0, 0, 0, 0, 0]) rfl
  generalize jup m160 185 3 1 = m161 at c161 ⊢
  clear c160
  refine G_iincE (pc := 656) [(2, 139), (0, 4)] dX11_init_656 rfl rfl (by decide) ?_
  refine G_goto (pc := 659) 643 dX11_init_659 rfl ?_
  refine G_iloadn (pc := 643) dX11_init_643 rfl ?_
  refine G_bipush (pc := 644) dX11_init_644 (by decide +kernel) (by decide) ?_
  refine G_icmp_ge (pc := 646) 662 dX11_init_646 rfl (fun c => absurd c (by decide)) (fun _ => ?_)
  refine G_aloadn (pc := 649) dX11_init_649 rfl ?_
  refine G_gete (pc := 650) dX11_init_650 fl_X11_151 (⟨by decide, (by decide +kernel)⟩ : jat _ 139 (11 + 10) 105) (by decide) (ci_at c161 59 185 rfl) ?_
  refine G_iloadn (pc := 653) dX11_init_653 rfl ?_
  refine G_iconst (pc := 654) dX11_init_654 (by decide) ?_
  refine G_iast (pc := 655) (n := 10) dX11_init_655 ⟨by decide, (by decide +kernel)⟩ (by decide) (by decide) ?_
  have c162 := ci_putA (i' := 4) (x := 1) 4 c161 (by decide) rfl (la' := [1, 1, 1, 1, 1, 0, 0, 0, 0, 0]) rfl
  generalize jup m161 185 4 1 = m162 at c162 ⊢
  clear c161
  refine G_iincE (pc := 656) [(2, 139), (0, 5)] dX11_init_656 rfl rfl (by decide) ?_
  refine G_goto (pc := 659) 643 dX11_init_659 rfl ?_
  refine G_iloadn (pc := 643) dX11_init_643 rfl ?_
  refine G_bipush (pc := 644) dX11_init_644 (by decide +kernel) (by decide) ?_
  refine G_icmp_ge (pc := 646) 662 dX11_init_646 rfl (fun c => absurd c (by decide)) (fun _ => ?_)
  refine G_aloadn (pc := 649) dX11_init_649 rfl ?_
  refine G_gete (pc := 650) dX11_init_650 fl_X11_151 (⟨by decide, (by decide +kernel)⟩ : jat _ 139 (11 + 10) 105) (by decide) (ci_at c162 59 185 rfl) ?_
  refine G_iloadn (pc := 653) dX11_init_653 rfl ?_
  refine G_iconst (pc := 654) dX11_init_654 (by decide) ?_
  refine G_iast (pc := 655) (n := 10) dX11_init_655 ⟨by decide, (by decide +kernel)⟩ (by decide) (by decide) ?_
  have c163 := ci_putA (i' := 5) (x := 1) 5 c162 (by decide) rfl (la' := [1, 1, 1, 1, 1, 1, 0, 0, 0, 0]) rfl
  generalize jup m162 185 5 1 = m163 at c163 ⊢
  clear c162
  refine G_iincE (pc := 656) [(2, 139), (0, 6)] dX11_init_656 rfl rfl (by decide) ?_
  refine G_goto (pc := 659) 643 dX11_init_659 rfl ?_
  refine G_iloadn (pc := 643) dX11_init_643 rfl ?_
  refine G_bipush (pc := 644) dX11_init_644 (by decide +kernel) (by decide) ?_
  refine G_icmp_ge (pc := 646) 662 dX11_init_646 rfl (fun c => absurd c (by decide)) (fun _ => ?_)
  refine G_aloadn (pc := 649) dX11_init_649 rfl ?_
  refine G_gete (pc := 650) dX11_init_650 fl_X11_151 (⟨by decide, (by decide +kernel)⟩ : jat _ 139 (11 + 10) 105) (by decide) (ci_at c163 59 185 rfl) ?_
  refine G_iloadn (pc := 653) dX11_init_653 rfl ?_
  refine G_iconst (pc := 654) dX11_init_654 (by decide) ?_
  refine G_iast (pc := 655) (n := 10) dX11_init_655 ⟨by decide, (by decide +kernel)⟩ (by decide) (by decide) ?_
  have c164 := ci_putA (i' := 6) (x := 1) 6 c163 (by decide) rfl (la' := [1, 1, 1, 1, 1, 1, 1, 0, 0, 0]) rfl
  generalize jup m163 185 6 1 = m164 at c164 ⊢
  clear c163
  refine G_iincE (pc := 656) [(2, 139), (0, 7)] dX11_init_656 rfl rfl (by decide) ?_
  refine G_goto (pc := 659) 643 dX11_init_659 rfl ?_
  refine G_iloadn (pc := 643) dX11_init_643 rfl ?_
  refine G_bipush (pc := 644) dX11_init_644 (by decide +kernel) (by decide) ?_
  refine G_icmp_ge (pc := 646) 662 dX11_init_646 rfl (fun c => absurd c (by decide)) (fun _ => ?_)
  refine G_aloadn (pc := 649) dX11_init_649 rfl ?_
  refine G_gete (pc := 650) dX11_init_650 fl_X11_151 (⟨by decide, (by decide +kernel)⟩ : jat _ 139 (11 + 10) 105) (by decide) (ci_at c164 59 185 rfl) ?_
  refine G_iloadn (pc := 653) dX11_init_653 rfl ?_
  refine G_iconst (pc := 654) dX11_init_654 (by decide) ?_
  refine G_iast (pc := 655) (n := 10) dX11_init_655 ⟨by decide, (by decide +kernel)⟩ (by decide) (by decide) ?_
  have c165 := ci_putA (i' := 7) (x := 1) 7 c164 (by decide) rfl (la' := [1, 1, 1, 1, 1, 1, 1, 1, 0, 0]) rfl
  generalize jup m164 185 7 1 = m165 at c165 ⊢
  clear c164
  refine G_iincE (pc := 656) [(2, 139), (0, 8)] dX11_init_656 rfl rfl (by decide) ?_
  refine G_goto (pc := 659) 643 dX11_init_659 rfl ?_
  refine G_iloadn (pc := 643) dX11_init_643 rfl ?_
  refine G_bipush (pc := 644) dX11_init_644 (by decide +kernel) (by decide) ?_
  refine G_icmp_ge (pc := 646) 662 dX11_init_646 rfl (fun c => absurd c (by decide)) (fun _ => ?_)
  refine G_aloadn (pc := 649) dX11_init_649 rfl ?_
  refine G_gete (pc := 650) dX11_init_650 fl_X11_151 (⟨by decide, (by decide +kernel)⟩ : jat _ 139 (11 + 10) 105) (by decide) (ci_at c165 59 185 rfl) ?_
  refine G_iloadn (pc := 653) dX11_init_653 rfl ?_
  refine G_iconst (pc := 654) dX11_init_654 (by decide) ?_
  refine G_iast (pc := 655) (n := 10) dX11_init_655 ⟨by decide, (by decide +kernel)⟩ (by decide) (by decide) ?_
  have c166 := ci_putA (i' := 8) (x := 1) 8 c165 (by decide) rfl (la' := [1, 1, 1, 1, 1, 1, 1, 1, 1, 0]) rfl
  generalize jup m165 185 8 1 = m166 at c166 ⊢
  clear c165
  refine G_iincE (pc := 656) [(2, 139), (0, 9)] dX11_init_656 rfl rfl (by decide) ?_
  refine G_goto (pc := 659) 643 dX11_init_659 rfl ?_
  refine G_iloadn (pc := 643) dX11_init_643 rfl ?_
  refine G_bipush (pc := 644) dX11_init_644 (by decide +kernel) (by decide) ?_
  refine G_icmp_ge (pc := 646) 662 dX11_init_646 rfl (fun c => absurd c (by decide)) (fun _ => ?_)
  refine G_aloadn (pc := 649) dX11_init_649 rfl ?_
  refine G_gete (pc := 650) dX11_init_650 fl_X11_151 (⟨by decide, (by decide +kernel)⟩ : jat _ 139 (11 + 10) 105) (by decide) (ci_at c166 59 185 rfl) ?_
  refine G_iloadn (pc := 653) dX11_init_653 rfl ?_
  refine G_iconst (pc := 654) dX11_init_654 (by decide) ?_
  refine G_iast (pc := 655) (n := 10) dX11_init_655 ⟨by decide, (by decide +kernel)⟩ (by decide) (by decide) ?_
  have c167 := ci_putA (i' := 9) (x := 1) 9 c166 (by decide) rfl (la' := [1, 1, 1, 1, 1, 1, 1, 1, 1, 1]) rfl
  generalize jup m166 185 9 1 = m167 at c167 ⊢
  clear c166
  refine G_iincE (pc := 656) [(2, 139), (0, 10)] dX11_init_656 rfl rfl (by decide) ?_
  refine G_goto (pc := 659) 643 dX11_init_659 rfl ?_
  refine G_iloadn (pc := 643) dX11_init_643 rfl ?_
  refine G_bipush (pc := 644) dX11_init_644 (by decide +kernel) (by decide) ?_
  refine G_icmp_ge (pc := 646) 662 dX11_init_646 rfl (fun _ => ?_) (fun c => absurd (by decide) c)
  exact G_ret (pc := 662) (st := []) rfl dX11_init_662 rfl (hQ _ (ci_end c167 (by decide) (by decide +kernel) (Or.inr (by decide +kernel)) (by decide)))

/-! the Tape's constructor -/
theorem oi_X6 : jOI RX6 3 := ⟨jinT1 (List.mem_of_getElem? (i := 40) rfl) rfl, jinT1 (List.mem_of_getElem? (i := 27) rfl) rfl, jinT1 (List.mem_of_getElem? (i := 28) rfl) rfl⟩
/-- a word after some of its letters -/
def wvL (w : Int) : Nat → Int
  | 0 => 0
  | i + 1 => if wB (8 * w + i) = 32 then wvL w i else wvL w i * 32 + wB (8 * w + i) - 97 + 1
theorem wvL_8 : ∀ w : Fin 22, wvL ((w : Nat) : Int) 8 = vB 32 (wd ((w : Nat) : Int)) := by decide +kernel
theorem wvL_in : ∀ w : Fin 22, ∀ i : Fin 9, 0 ≤ wvL ((w : Nat) : Int) (i : Nat) ∧ wvL ((w : Nat) : Int) (i : Nat) ≤ 1099511627776 := by decide +kernel
theorem wB_and : ∀ i : Fin 176, jand (wB ((i : Nat) : Int)) 255 = wB ((i : Nat) : Int) := by decide +kernel
theorem k_withLetter {sh : jS} {m : jM} {Q : Int → jM → Prop} {a b : Int} (h : Q (jw64 ((jw64 ((jw64 ((jw64 (a * 32)) + b)) - 97)) + 1)) m) : M iX6_withLetter [(1, a), (0, b)] sh m Q :=
  M_intro [(1, a), (9, 0), (0, b)] (by decide) (Nat.le_of_ble_eq_true rfl) rfl rfl
  (G_lloadn (pc := 0) dX6_withLetter_0 rfl (G_ldc2 (pc := 1) dX6_withLetter_1 ld2_X6_82 (by decide) (G_lmul (pc := 4) dX6_withLetter_4 (G_iloadn (pc := 5) dX6_withLetter_5 rfl (G_i2l (pc := 6) dX6_withLetter_6 (G_ladd (pc := 7) dX6_withLetter_7 (G_ldc2 (pc := 8) dX6_withLetter_8 ld2_X6_84 (by decide) (G_lsub (pc := 11) dX6_withLetter_11 (G_lconst (pc := 12) dX6_withLetter_12 (G_ladd (pc := 13) dX6_withLetter_13 (G_lret (pc := 14) (st := []) (List.append_nil _) dX6_withLetter_14 rfl h)))))))))))
/-- the Tape while its words are made -/
def tpW (m0 m : jM) : Prop := cI 2 7 3 m0 8 [3, 0, 4, 5, 6, 7] [] m
theorem tpW_up {m0 m : jM} {i x : Int} (h : tpW m0 m) (i0 : 0 ≤ i) : tpW m0 (jup m 7 i x) := ci_putA (i' := i) (x := x) i.toNat h (by decide) (by omega) (la' := []) rfl
abbrev T8 : jS := SH.take 8
theorem at_T2 : jat T8 2 (6 + 10) 6 := ⟨by decide, by decide +kernel⟩
theorem at_T7 : jat T8 7 1 22 := ⟨by decide, by decide +kernel⟩
theorem t_inner {m0 : jM} {Q : Int → jM → Prop} {w : Int} (w0 : 0 ≤ w) (w1 : w < 22) : ∀ (N : Nat) (i : Int) (m : jM), 8 - i < N → 0 ≤ i → i ≤ 8 → tpW m0 m → (∀ j, 0 ≤ j → j < w → m 7 j = vB 32 (wd j)) → m 7 w = wvL w i.toNat → (∀ j, w < j → j < 22 → m 7 j = 0) → (∀ m', tpW m0 m' → (∀ j, 0 ≤ j → j < w + 1 → m' 7 j = vB 32 (wd j)) → (∀ j, w < j → j < 22 → m' 7 j = 0) → G iX6_init T8 T8 m' 50 [(2, 2), (0, w + 1), (9, 0), (9, 0)] [] Q) → G iX6_init T8 T8 m 61 [(2, 2), (0, w), (0, i), (9, 0)] [] Q := by
  intro N
  induction N with
  | zero => intro i m h1 _ h2 _ _ _ _ _; omega
  | succ N ih =>
    intro i m hN i0 i8 hW hb hw ha K
    have e25 : m 2 5 = 7 := hW.2.1 5 7 rfl
    refine G_iloadn (pc := 61) dX6_init_61 rfl ?_
    refine G_bipush (pc := 62) dX6_init_62 (by decide +kernel) (by decide) ?_
    refine G_icmp_ge (pc := 64) 116 dX6_init_64 rfl (fun c => ?_) (fun c => ?_)
    · have e8 : i = 8 := by omega
      subst e8
      refine G_iincE (pc := 116) [(2, 2), (0, w + 1), (0, 8), (9, 0)] dX6_init_116 rfl rfl (by rw [jw_id (x := w + 1) (by omega) (by omega)]; rfl) ?_
      refine G_goto (pc := 119) 50 dX6_init_119 rfl ?_
      refine G_weak (jwk_s (jwk_s (jwk_d (jwk_s jwk_n)))) (K m hW (fun j j0 j1 => ?_) ha)
      by_cases e : j = w
      · rw [e, hw]
        have := wvL_8 ⟨w.toNat, by omega⟩
        simp only [Int.toNat_of_nonneg w0] at this
        exact this
      · exact hb j j0 (by omega)
    · have i7 : i < 8 := by omega
      refine G_ldcS (pc := 67) dX6_init_67 rfl ?_
      refine G_iloadn (pc := 69) dX6_init_69 rfl ?_
      refine G_bipush (pc := 70) dX6_init_70 (by decide +kernel) (by decide) ?_
      refine G_imul (pc := 72) dX6_init_72 ?_
      refine G_iloadn (pc := 73) dX6_init_73 rfl ?_
      refine G_iadd (pc := 74) dX6_init_74 ?_
      rw [jw_id (x := w * 8) (by omega) (by omega), jw_id (x := w * 8 + i) (by omega) (by omega), show w * 8 + i = 8 * w + i by omega]
      refine G_callVs (pc := 75) [(0, 8 * w + i)] [] dX6_init_75 cvJ_charAt rfl (Nat.le_of_ble_eq_true rfl) rfl rfl rfl (Nat.le_of_ble_eq_true rfl) (Nat.le_refl _) (Nat.le_refl _) (k_charAt (by omega) (by omega) (fun _ => ?_))
      have eB := wB_and ⟨(8 * w + i).toNat, by omega⟩
      simp only [Int.toNat_of_nonneg (show 0 ≤ 8 * w + i by omega)] at eB
      have bB := wB_in ⟨(8 * w + i).toNat, by omega⟩
      simp only [Int.toNat_of_nonneg (show 0 ≤ 8 * w + i by omega)] at bB
      have eN : (i + 1).toNat = i.toNat + 1 := by omega
      have eS : wvL w (i + 1).toNat = if wB (8 * w + i) = 32 then wvL w i.toNat else wvL w i.toNat * 32 + wB (8 * w + i) - 97 + 1 := by
        rw [eN]
        show (if wB (8 * w + (i.toNat : Int)) = 32 then _ else _) = _
        rw [Int.toNat_of_nonneg i0]
      have bw := wvL_in ⟨w.toNat, by omega⟩ ⟨i.toNat, by omega⟩
      simp only [Int.toNat_of_nonneg w0] at bw
      show G iX6_init T8 T8 m 78 _ [(0, jand (wB (8 * w + i)) 255)] Q
      rw [eB]
      generalize wB (8 * w + i) = ch at eS bB ⊢
      refine G_istnE (pc := 78) [(2, 2), (0, w), (0, i), (0, ch)] dX6_init_78 (Nat.le_of_ble_eq_true rfl) rfl rfl ?_
      refine G_aloadn (pc := 79) dX6_init_79 rfl ?_
      refine G_gete (pc := 80) dX6_init_80 fl_X6_25 at_T2 (by decide) e25 ?_
      refine G_iloadn (pc := 83) dX6_init_83 rfl ?_
      refine G_iloadn (pc := 84) dX6_init_84 rfl ?_
      refine G_bipush (pc := 85) dX6_init_85 (by decide +kernel) (by decide) ?_
      have fin : ∀ x, x = wvL w (i + 1).toNat → G iX6_init T8 T8 m 109 [(2, 2), (0, w), (0, i), (0, ch)] [(1, x), (0, w), (2, 7)] Q := by
        intro x hx
        refine G_last (pc := 109) (n := 22) dX6_init_109 at_T7 w0 (by omega) ?_
        refine G_iincE (pc := 110) [(2, 2), (0, w), (0, i + 1), (0, ch)] dX6_init_110 rfl rfl (by rw [jw_id (x := i + 1) (by omega) (by omega)]; rfl) ?_
        refine G_goto (pc := 113) 61 dX6_init_113 rfl ?_
        refine G_weak (jwk_s (jwk_s (jwk_s (jwk_d jwk_n)))) ?_
        refine ih (i + 1) _ (by omega) (by omega) (by omega) (tpW_up hW w0) (fun j j0 j1 => by rw [jup_j (by omega)]; exact hb j j0 j1) (by rw [jup_s]; exact hx) (fun j j0 j1 => by rw [jup_j (by omega)]; exact ha j j0 j1) K
      refine G_icmp_ne (pc := 87) 99 dX6_init_87 rfl (fun c => ?_) (fun c => ?_)
      · refine G_aloadn (pc := 99) dX6_init_99 rfl ?_
        refine G_gete (pc := 100) dX6_init_100 fl_X6_25 at_T2 (by decide) e25 ?_
        refine G_iloadn (pc := 103) dX6_init_103 rfl ?_
        refine G_lalde (pc := 104) (n := 22) dX6_init_104 at_T7 w0 (by omega) hw ?_
        refine G_iloadn (pc := 105) dX6_init_105 rfl ?_
        refine G_callS (pc := 106) [(1, wvL w i.toNat), (0, ch)] [(0, w), (2, 7)] dX6_init_106 cs_X6_36 rfl (Nat.le_of_ble_eq_true rfl) rfl rfl (Nat.le_of_ble_eq_true rfl) (Nat.le_refl _) (Nat.le_refl _) (k_withLetter (fun _ => ?_))
        rw [if_neg c] at eS
        have b1 := bw.1
        have b2 := bw.2
        rw [jw64_id (x := wvL w i.toNat * 32) (by omega) (by omega), jw64_id (x := wvL w i.toNat * 32 + ch) (by omega) (by omega), jw64_id (x := wvL w i.toNat * 32 + ch - 97) (by omega) (by omega), jw64_id (x := wvL w i.toNat * 32 + ch - 97 + 1) (by omega) (by omega)]
        exact fin _ eS.symm
      · have c32 : ch = 32 := Classical.byContradiction c
        refine G_aloadn (pc := 90) dX6_init_90 rfl ?_
        refine G_gete (pc := 91) dX6_init_91 fl_X6_25 at_T2 (by decide) e25 ?_
        refine G_iloadn (pc := 94) dX6_init_94 rfl ?_
        refine G_lalde (pc := 95) (n := 22) dX6_init_95 at_T7 w0 (by omega) hw ?_
        refine G_goto (pc := 96) 109 dX6_init_96 rfl ?_
        rw [if_pos c32] at eS
        exact fin _ eS.symm
theorem t_outer {m0 : jM} {Q : Int → jM → Prop} (hQ : ∀ m', tpW m0 m' → (∀ j, 0 ≤ j → j < 22 → m' 7 j = vB 32 (wd j)) → Q 0 m') : ∀ (N : Nat) (w : Int) (m : jM), 22 - w < N → 0 ≤ w → w ≤ 22 → tpW m0 m → (∀ j, 0 ≤ j → j < w → m 7 j = vB 32 (wd j)) → (∀ j, w ≤ j → j < 22 → m 7 j = 0) → G iX6_init T8 T8 m 50 [(2, 2), (0, w), (9, 0), (9, 0)] [] Q := by
  intro N
  induction N with
  | zero => intro w m h1 _ h2 _ _ _; omega
  | succ N ih =>
    intro w m hN w0 w22 hW hb ha
    have e25 : m 2 5 = 7 := hW.2.1 5 7 rfl
    refine G_iloadn (pc := 50) dX6_init_50 rfl ?_
    refine G_aloadn (pc := 51) dX6_init_51 rfl ?_
    refine G_gete (pc := 52) dX6_init_52 fl_X6_25 at_T2 (by decide) e25 ?_
    refine G_alene (pc := 55) (kd := 1) (n := 22) (x := 22) (by decide) (by decide) dX6_init_55 at_T7 rfl ?_
    refine G_icmp_ge (pc := 56) 122 dX6_init_56 rfl (fun c => ?_) (fun c => ?_)
    · have e : w = 22 := by omega
      subst e
      exact G_ret (pc := 122) (st := []) rfl dX6_init_122 rfl (hQ m hW hb)
    · have w1 : w < 22 := by omega
      refine G_iconst (pc := 59) dX6_init_59 (by decide) ?_
      refine G_istnE (pc := 60) [(2, 2), (0, w), (0, 0), (9, 0)] dX6_init_60 (Nat.le_of_ble_eq_true rfl) rfl rfl ?_
      refine t_inner w0 w1 9 0 m (by decide) (by decide) (by decide) hW hb (by rw [ha w (Int.le_refl _) w1]; rfl) (fun j j0 j1 => ha j (by omega) j1) (fun m' a b c => ?_)
      exact ih (w + 1) m' (by omega) (by omega) (by omega) a b (fun j j0 j1 => c j (by omega) j1)
theorem k_X6_2 {m : jM} {Q : Int → jM → Prop} (hm : rowIs (m 2) [-1, 0, -1, -1, -1, -1]) (hQ : ∀ m', mdO 2 8 m m' → Q 0 m') : M iX6_init [(2, 2)] (SH.take 3) m Q := by
  refine N_intro (fs := T8) [(2, 2), (9, 0), (9, 0), (9, 0)] (by decide +kernel) (Nat.le_of_ble_eq_true rfl) rfl rfl (by decide +kernel) ?_
  have c0 := ci_0 (P := 2) (lo := 3) hm (by decide) (by decide)
  refine G_aloadn (pc := 0) dX6_init_0 rfl ?_
  refine G_obj (pc := 1) dX6_init_1 oi_X6 (by decide) (Nat.le_of_ble_eq_true rfl) ?_
  refine G_aloadn (pc := 4) dX6_init_4 rfl ?_
  refine G_sipush (pc := 5) dX6_init_5 (by decide +kernel) (by decide) ?_
  refine N_newI (pc := 8) (n := 2000) (L := 3) (sh' := (SH.take 4)) dX6_init_8 rfl (Nat.le_of_ble_eq_true rfl) (by decide +kernel) (by decide +kernel) (by decide +kernel) (by decide +kernel) ?_
  have c1 := ci_z c0 (by decide +kernel) (by decide) (s' := 4) (by decide)
  generalize jn m 3 zr = m1 at c1 ⊢
  clear c0
  refine G_putF (pc := 10) dX6_init_10 fl_X6_11 ff_X6_0 rfl rfl (⟨by decide, (by decide +kernel)⟩ : jat _ 2 (6 + 10) 6) (by decide) (fz_X6_0 _) ?_
  have c2 := ci_put (k' := 0) (x := 3) 0 c1 rfl (l' := [3, 0, -1, -1, -1, -1]) rfl
  generalize jup m1 2 0 3 = m2 at c2 ⊢
  clear c1
  refine G_aloadn (pc := 13) dX6_init_13 rfl ?_
  refine G_sipush (pc := 14) dX6_init_14 (by decide +kernel) (by decide) ?_
  refine N_newI (pc := 17) (n := 401) (L := 4) (sh' := (SH.take 5)) dX6_init_17 rfl (Nat.le_of_ble_eq_true rfl) (by decide +kernel) (by decide +kernel) (by decide +kernel) (by decide +kernel) ?_
  have c3 := ci_z c2 (by decide +kernel) (by decide) (s' := 5) (by decide)
  generalize jn m2 4 zr = m3 at c3 ⊢
  clear c2
  refine G_putF (pc := 19) dX6_init_19 fl_X6_15 ff_X6_2 rfl rfl (⟨by decide, (by decide +kernel)⟩ : jat _ 2 (6 + 10) 6) (by decide) (fz_X6_2 _) ?_
  have c4 := ci_put (k' := 2) (x := 4) 2 c3 rfl (l' := [3, 0, 4, -1, -1, -1]) rfl
  generalize jup m3 2 2 4 = m4 at c4 ⊢
  clear c3
  refine G_aloadn (pc := 22) dX6_init_22 rfl ?_
  refine G_sipush (pc := 23) dX6_init_23 (by decide +kernel) (by decide) ?_
  refine N_newI (pc := 26) (n := 401) (L := 5) (sh' := (SH.take 6)) dX6_init_26 rfl (Nat.le_of_ble_eq_true rfl) (by decide +kernel) (by decide +kernel) (by decide +kernel) (by decide +kernel) ?_
  have c5 := ci_z c4 (by decide +kernel) (by decide) (s' := 6) (by decide)
  generalize jn m4 5 zr = m5 at c5 ⊢
  clear c4
  refine G_putF (pc := 28) dX6_init_28 fl_X6_18 ff_X6_3 rfl rfl (⟨by decide, (by decide +kernel)⟩ : jat _ 2 (6 + 10) 6) (by decide) (fz_X6_3 _) ?_
  have c6 := ci_put (k' := 3) (x := 5) 3 c5 rfl (l' := [3, 0, 4, 5, -1, -1]) rfl
  generalize jup m5 2 3 5 = m6 at c6 ⊢
  clear c5
  refine G_aloadn (pc := 31) dX6_init_31 rfl ?_
  refine G_sipush (pc := 32) dX6_init_32 (by decide +kernel) (by decide) ?_
  refine N_newL (pc := 35) (n := 401) (L := 6) (sh' := (SH.take 7)) dX6_init_35 rfl (Nat.le_of_ble_eq_true rfl) (by decide +kernel) (by decide +kernel) (by decide +kernel) (by decide +kernel) ?_
  have c7 := ci_z c6 (by decide +kernel) (by decide) (s' := 7) (by decide)
  generalize jn m6 6 zr = m7 at c7 ⊢
  clear c6
  refine G_putF (pc := 37) dX6_init_37 fl_X6_21 ff_X6_4 rfl rfl (⟨by decide, (by decide +kernel)⟩ : jat _ 2 (6 + 10) 6) (by decide) (fz_X6_4 _) ?_
  have c8 := ci_put (k' := 4) (x := 6) 4 c7 rfl (l' := [3, 0, 4, 5, 6, -1]) rfl
  generalize jup m7 2 4 6 = m8 at c8 ⊢
  clear c7
  refine G_aloadn (pc := 40) dX6_init_40 rfl ?_
  refine G_bipush (pc := 41) dX6_init_41 (by decide +kernel) (by decide) ?_
  refine N_newL (pc := 43) (n := 22) (L := 7) (sh' := (SH.take 8)) dX6_init_43 rfl (Nat.le_of_ble_eq_true rfl) (by decide +kernel) (by decide +kernel) (by decide +kernel) (by decide +kernel) ?_
  have c9 := ci_o (f := zr) (la := []) c8 (by decide) (rowIs_all (by decide)) (s' := 8) (by decide)
  have z9 : ∀ j, jn m8 7 zr 7 j = 0 := fun j => by rw [jn_s]; rfl
  generalize jn m8 7 zr = m9 at c9 z9 ⊢
  clear c8
  refine G_putF (pc := 45) dX6_init_45 fl_X6_25 ff_X6_5 rfl rfl (⟨by decide, (by decide +kernel)⟩ : jat _ 2 (6 + 10) 6) (by decide) (fz_X6_5 _) ?_
  have c10 := ci_put (k' := 5) (x := 7) 5 c9 rfl (l' := [3, 0, 4, 5, 6, 7]) rfl
  have z10 : ∀ j, jup m9 2 5 7 7 j = 0 := fun j => by rw [jup_ne (by decide)]; exact z9 j
  generalize jup m9 2 5 7 = m10 at c10 z10 ⊢
  clear c9 z9
  refine G_iconst (pc := 48) dX6_init_48 (by decide) ?_
  refine G_istnE (pc := 49) [(2, 2), (0, 0), (9, 0), (9, 0)] dX6_init_49 (Nat.le_of_ble_eq_true rfl) rfl rfl ?_
  refine t_outer (m0 := m) (fun m' a b => hQ m' ?_) 23 0 m10 (by decide) (by decide) (by decide) c10 (fun j j0 j1 => by omega) (fun j _ _ => z10 j)
  obtain ⟨a1, a2, a3, a4, -⟩ := a
  refine ⟨fun q q0 q1 => ?_, fun q hq => a4 q (by omega) (by omega)⟩
  by_cases e2 : q = 2
  · rw [e2]; exact rowOK_l (l := [3, 0, 4, 5, 6, 7]) (by decide +kernel) a2
  · by_cases e7 : q = 7
    · rw [e7]
      unfold rowOK
      rw [show iniL.lookup 7 = none by decide +kernel, if_pos rfl]
      exact b
    · exact a3 q (by omega) q1 e7

theorem c_schoolR {K S W : Int → Int} {n k c : Int} {m V : jM} {P : Int × Int × Int} {Q : Int → jM → Prop} (h : rX K S W n k m P V c m) (hn : P.1 ≤ n) (h0 : P.2.1 = 0) (hv : tV K W n) (o : smOk V) (hc : c + 1 ≤ 24) (hI : nmI V) (hl : loF S V P.1) (hk : K P.1 = 2) (hQ : ∀ r m', rOut K S W n k m (sxSchool K S V P) (smSchool W S P.1 V) (c + 1) r m' → Q r m') : ML iX11_tellSchool [(2, 139)] m Q := by
  have c1 := h.2.2.2.1
  have kb := c1.1.1
  have kb2 := c1.1.2.1
  have o3 := o.2.2.2.2.1
  have o33 := o.2.2.2.2.2.1
  have p0 := h.2.2.1.1
  refine sX11_tellSchool ?_
  rw [c1.1.2.2, c1.2.1.2.2.1]
  refine ⟨c1.1.1, c1.1.2.1, fun z => ⟨c1.1.1, c1.1.2.1, ?_⟩, fun z => ?_⟩
  · have rm : rmF S (V 0 2) 3 P = P := by unfold rmF; rw [if_pos (by omega)]
    have ex : sxSchool K S V P = stq K S 24 (stq K S 23 (stq K S 22 (stq K S 11 (stq K S 22 (stq K S 2 P))))) := by unfold sxSchool; rw [rm]
    rw [ex] at hQ
    refine c_passR (kk := 2) h hn h0 hk (fun m1 x1 z1 => ⟨fun w => absurd w (by decide), fun _ => ?_⟩) (fun m1 x1 z1 => ⟨fun _ => hQ 0 m1 (rOut_0 x1 rdY_rf z1 ?_), fun w => absurd rfl w⟩)
    · have n1 : (stq K S 2 P).1 ≤ n := stq_n hv hn (by decide)
      have e1 : (stq K S 2 P).1 = P.1 + 1 := stq_1 z1
      have s1 := x1.2.1.2.1.2 P.1 (P.1 + 1) p0.1 (by omega) (by omega)
      have hl1 : loF S V (stq K S 2 P).1 := by rw [e1]; exact loF_mn hl (by omega)
      refine c_namesR x1 n1 z1 hl1 hc hI (fun m2 x2 z2 => ⟨fun _ => ?_, fun w => absurd (by decide) w⟩) (fun m2 x2 z2 => ⟨fun w => absurd rfl w, fun _ => hQ 0 m2 (rOut_0 x2 rdY_rf z2 (by rw [stq_f z2, stq_f z2, stq_f z2, stq_f z2]))⟩)
      generalize hP2 : stq K S 22 (stq K S 2 P) = P2 at *
      have n2 : P2.1 ≤ n := by rw [← hP2]; exact stq_n hv n1 (by decide)
      have e2 : P2.1 = P.1 + 2 := by rw [← hP2, stq_1 (by rw [hP2]; exact z2)]; omega
      rw [e1] at x2
      refine c_isWordR (kk := 11) x2 n2 (by decide) (by decide) (by decide) (fun k11 => ⟨fun _ => ?_, fun w => absurd (by decide) w⟩) (fun k11 => ⟨fun w => absurd rfl w, fun _ => ?_⟩)
      · refine c_passR (kk := 11) x2 n2 z2 k11 (fun m3 x3 z3 => ⟨fun _ => ?_, fun w => absurd (by decide) w⟩) (fun m3 x3 z3 => ⟨fun w => absurd rfl w, fun _ => hQ 0 m3 (rOut_0 x3 rdY_rf z3 (by rw [stq_f z3, stq_f z3, stq_f z3]))⟩)
        generalize hP3 : stq K S 11 P2 = P3 at *
        have n3 : P3.1 ≤ n := by rw [← hP3]; exact stq_n hv n2 (by decide)
        have e3 : P3.1 = P.1 + 3 := by rw [← hP3, stq_1 (by rw [hP3]; exact z3)]; omega
        have q3 := x3.2.2.1.2.1
        refine c_takesR (kk := 22) x3 n3 z3 (Or.inl ⟨rfl, rfl⟩) (fun m4 x4 z4 => ⟨fun _ => ?_, fun w => absurd (by decide) w⟩) (fun m4 x4 z4 => ⟨fun w => absurd rfl w, fun _ => hQ 0 m4 (rOut_0 x4 rdY_rf z4 (by rw [stq_f z4, stq_f z4]))⟩)
        have k3 := (stq_ok z4).2.1
        have n4 : (stq K S 22 P3).1 ≤ n := stq_n hv n3 (by decide)
        have e4 : (stq K S 22 P3).1 = P.1 + 4 := by rw [stq_1 z4]; omega
        have s3 := x4.2.1.2.1.2 (P.1 + 1) (P.1 + 3) (by omega) (by omega) (by omega)
        have s4 := x4.2.1.2.1.2 (P.1 + 3) (P.1 + 4) (by omega) (by omega) (by omega)
        have I2 : nmI (tlN W S (P.1 + 1) (-1) V) := by
          have := nmI_tl (W := W) (S := S) (tok := P.1 + 1) hI o.1 (Or.inl rfl)
          exact nmI_V this (by rw [jup_s, if_pos rfl]; exact tlN_V.1 0 (by decide) (by decide) (by decide)) (by rw [jup_j (by decide)]) (jup_ne (by decide)).symm (jup_ne (by decide)).symm
        have l3 : loF S (tlN W S (P.1 + 1) (-1) V) (P.1 + 3) := loF_tl (by rw [e1] at hl1; exact hl1) s3
        rw [q3, e3]
        rw [e3] at k3
        refine c_placeAtR x4 (by omega) (by omega) k3 I2 l3 (fun r m5 x5 hr => ?_)
        have E3 : (smSc1 W S P.1 V).2 0 2 = V 0 2 := smSc1_V.1 2 (by decide) (by decide) (by decide)
        have x5' : rX K S W n k m (stq K S 22 P3) (smSc1 W S P.1 V).2 (c + 1) m5 := x5
        have x6 := rX_cell (q := 155) (i := 3 * k + V 0 2) (x := r) x5' (Or.inr (Or.inl ⟨Or.inl rfl, by rw [E3]⟩))
        rw [jw_id (x := 3 * k) (by omega) (by omega), jw_id (x := 3 * k + V 0 2) (by omega) (by omega)]
        have l4 : loF S (smSc1 W S P.1 V).2 (P.1 + 4) := loF_pl l3 s4
        have y6 : rdY k m (jup m5 155 (3 * k + V 0 2) r) := rdY_up (rdY_H x5'.1) (by unfold okY; omega)
        refine ⟨by omega, by omega, c_takesIntR (B := 1440 ≤ W (P.1 + 4)) x6 n4 z4 (by rw [e4]; exact l4) (by rw [e4]; intro a d; omega) (fun m7 x7 z7 e64 => ⟨fun _ => ?_, fun w => absurd (by decide) w⟩) (fun m7 x7 z7 => ⟨fun w => absurd rfl w, fun _ => hQ 0 m7 (rOut_0 x7 y6 z7 (by rw [stq_f z7]))⟩)⟩
        rw [e4] at x7 e64
        have E7 : wrF S (1440 ≤ W (P.1 + 4)) (P.1 + 4) (smSc1 W S P.1 V).2 0 2 = V 0 2 := (wrF_V.1 2 (by decide) (by decide)).trans E3
        have d7 := x7.2.2.2.1
        have g := d7.2.1.2.2.1
        rw [E7] at g
        rw [d7.1.2.2, g, jw_id (x := V 0 2 + 1) (by omega) (by omega), e64]
        have x8 := rX_cell (q := 156) (i := 3 * k + V 0 2) (x := W (P.1 + 4)) x7 (Or.inr (Or.inl ⟨Or.inr rfl, by rw [E7]⟩))
        refine ⟨by omega, by omega, d7.1.1, d7.1.2.1, d7.1.1, d7.1.2.1, hQ 1 _ ⟨rdY_up (rdY_up (rdY_tr y6 (rdY_H x7.1)) (by unfold okY; omega)) (by unfold okY; omega), rTk_cg x8.2.1 (fun q hq => jup_ne (by omega)), Or.inr ⟨rfl, _, z7, rfl, stq_n hv n4 (by decide), rPs_cg x8.2.2.1 (fun i hi => by rw [jup_ne (by decide)]), ?_⟩⟩⟩
        have f := rMn_adS (a := (smSc1 W S P.1 V).1) (b := W (P.1 + 4)) x8.2.2.2 (by rw [E7]; omega) (fun y => by
          rw [E7, jup_ne (by decide), jup_s, rdH_row x7.1 (by decide) (by decide) (by decide), jup_s]
          exact ⟨hr (wrF_0 y).1, rfl⟩)
        rw [E7] at f
        exact f
      · have ne : (flF S 1 P2).2.1 ≠ 0 := flF_ne (by decide)
        have ef : stq K S 11 P2 = flF S 1 P2 := by
          unfold stq flF
          rw [if_neg (fun w => w z2), if_pos k11, if_neg (fun w => w z2)]
        refine c_wrongR x2 n2 z2 (by decide) (fun m3 x3 => ⟨Or.inl rfl, hQ 0 m3 (rOut_0 x3 rdY_rf ne (by rw [ef, stq_f ne, stq_f ne, stq_f ne]))⟩)
    · rw [stq_f z1, stq_f z1, stq_f z1, stq_f z1, stq_f z1]
  · have rm : rmF S (V 0 2) 3 P = flF S 2 P := by unfold rmF; rw [if_neg (by omega)]
    have ne : (flF S 2 P).2.1 ≠ 0 := flF_ne (by decide)
    refine c_wrongR h hn h0 (by decide) (fun m1 x1 => ⟨Or.inl rfl, hQ 0 m1 (rOut_0 x1 rdY_rf ne ?_)⟩)
    unfold sxSchool
    rw [rm, stq_f ne, stq_f ne, stq_f ne, stq_f ne, stq_f ne, stq_f ne]
theorem c_wayR {K S W : Int → Int} {n k c : Int} {m V : jM} {P : Int × Int × Int} {Q : Int → jM → Prop} (h : rX K S W n k m P V c m) (hn : P.1 ≤ n) (h0 : P.2.1 = 0) (hv : tV K W n) (o : smOk V) (hI : nmI V) (hl : loF S V P.1) (hk : K P.1 = 1) (hQ : ∀ r m', rOut K S W n k m (sxWay K S V P) (smWay K W S P.1 V) c r m' → Q r m') : ML iX11_tellWay [(2, 139)] m Q := by
  have c1 := h.2.2.2.1
  have kb := c1.1.1
  have kb2 := c1.1.2.1
  have o3 := o.2.2.1
  have o33 := o.2.2.2.1
  have p0 := h.2.2.1.1
  have q0 := h.2.2.1.2.1
  refine sX11_tellWay ?_
  rw [c1.1.2.2, c1.2.1.2.1]
  refine ⟨c1.1.1, c1.1.2.1, fun z => ⟨c1.1.1, c1.1.2.1, ?_⟩, fun z => ?_⟩
  · have rm : rmF S (V 0 1) 24 P = P := by unfold rmF; rw [if_pos (by omega)]
    have ey : syWay K S V P = stq K S 23 (stq K S 23 (stq K S 22 (stq K S 22 (stq K S 1 P)))) := by unfold syWay; rw [rm]
    -- a fault within
    have bad : ∀ m0 mx VV cc Pw, rdY k m m0 → rX K S W n k m0 Pw VV cc mx → Pw.2.1 ≠ 0 → syWay K S V P = Pw → Q 0 mx := by
      intro m0 mx VV cc Pw hy x zz e
      refine hQ 0 mx (rOut_0 x hy zz ?_)
      unfold sxWay
      rw [e]
      split
      · rw [stq_f zz, stq_f zz]
      · rw [stq_f zz]
    refine c_passR (kk := 1) h hn h0 hk (fun m1 x1 z1 => ⟨fun w => absurd w (by decide), fun _ => ?_⟩) (fun m1 x1 z1 => ⟨fun _ => bad _ _ _ _ _ rdY_rf x1 z1 (by rw [ey, stq_f z1, stq_f z1, stq_f z1, stq_f z1]), fun w => absurd rfl w⟩)
    generalize hP1 : stq K S 1 P = P1 at *
    have n1 : P1.1 ≤ n := by rw [← hP1]; exact stq_n hv hn (by decide)
    have e1 : P1.1 = P.1 + 1 := by rw [← hP1]; exact stq_1 (by rw [hP1]; exact z1)
    refine c_takesR (kk := 22) x1 n1 z1 (Or.inl ⟨rfl, rfl⟩) (fun m2 x2 z2 => ⟨fun w => absurd w (by decide), fun _ => ?_⟩) (fun m2 x2 z2 => ⟨fun _ => bad _ _ _ _ _ rdY_rf x2 z2 (by rw [ey, stq_f z2, stq_f z2, stq_f z2]), fun w => absurd rfl w⟩)
    have k1 := (stq_ok z2).2.1
    generalize hP2 : stq K S 22 P1 = P2 at *
    have n2 : P2.1 ≤ n := by rw [← hP2]; exact stq_n hv n1 (by decide)
    have e2 : P2.1 = P.1 + 2 := by rw [← hP2, stq_1 (by rw [hP2]; exact z2)]; omega
    refine c_takesR (kk := 22) x2 n2 z2 (Or.inl ⟨rfl, rfl⟩) (fun m3 x3 z3 => ⟨fun _ => ?_, fun w => absurd (by decide) w⟩) (fun m3 x3 z3 => ⟨fun w => absurd rfl w, fun _ => bad _ _ _ _ _ rdY_rf x3 z3 (by rw [ey, stq_f z3, stq_f z3])⟩)
    have k2 := (stq_ok z3).2.1
    generalize hP3 : stq K S 22 P2 = P3 at *
    have n3 : P3.1 ≤ n := by rw [← hP3]; exact stq_n hv n2 (by decide)
    have e3 : P3.1 = P.1 + 3 := by rw [← hP3, stq_1 (by rw [hP3]; exact z3)]; omega
    have sm := x3.2.1.2.1.2
    have n4 := x3.2.1.2.2.2
    rw [q0, jw_id (x := P.1 + 1) (by omega) (by omega), jw_id (x := P.1 + 1 + 1) (by omega) (by omega), show P.1 + 1 + 1 = P.1 + 2 by omega, jw_id (x := 24 * k) (by omega) (by omega), jw_id (x := 24 * k + V 0 1) (by omega) (by omega)]
    rw [e1] at k1
    rw [e2] at k2
    have l1 : loF S V (P.1 + 1) := loF_mn hl (by have := sm P.1 (P.1 + 1) (by omega) (by omega) (by omega); omega)
    refine c_placeAtR x3 (by omega) (by omega) k1 hI l1 (fun r1 m4 x4 hr1 => ?_)
    have E1 : ∀ j, j ≠ 11 → j ≠ 12 → (plN W S (P.1 + 1) V).2 0 j = V 0 j := plN_V.1
    have l2 : loF S (plN W S (P.1 + 1) V).2 (P.1 + 2) := loF_pl l1 (sm _ _ (by omega) (by omega) (by omega))
    have x5 := rX_cell (q := 149) (i := 24 * k + V 0 1) (x := r1) x4 (Or.inl ⟨by decide, by decide, by rw [E1 1 (by decide) (by decide)]⟩)
    have y5 : rdY k m (jup m4 149 (24 * k + V 0 1) r1) := rdY_up (rdY_H x4.1) (by unfold okY; omega)
    refine ⟨by omega, by omega, c_placeAtR x5 (by omega) (by omega) k2 (nmI_pl hI) l2 (fun r2 m6 x6 hr2 => ?_)⟩
    generalize hV1 : (plN W S (P.1 + 1) V).2 = V1 at *
    generalize hV2 : (plN W S (P.1 + 2) V1).2 = V2 at *
    have E2 : ∀ j, j ≠ 11 → j ≠ 12 → V2 0 j = V 0 j := fun j a b => by rw [← hV2, plN_V.1 j a b, E1 j a b]
    have a149 : m6 149 (24 * k + V 0 1) = r1 := by rw [rdH_row x6.1 (by decide) (by decide) (by decide), jup_s]
    -- once more: what comes behind the names
    have tail : ∀ m7, rX K S W n k m7 P3 (smWay3 W S P.1 V) c m7 → rdY k m m7 → (smWay3 W S P.1 V 0 11 = 0 → m7 149 (24 * k + V 0 1) = (plN W S (P.1 + 1) V).1 ∧ m7 150 (24 * k + V 0 1) = (plN W S (P.1 + 2) V1).1) → GL iX11_tellWay m7 129 [(2, 139), (0, 24 * k + V 0 1), (9, 0)] [] Q := by
      intro m7 x7 y7 h7
      have E3 : ∀ j, j ≠ 11 → j ≠ 12 → smWay3 W S P.1 V 0 j = V 0 j := fun j a b => by
        unfold smWay3
        rw [wrF_V.1 j a b, plN_V.1 j a b, plN_V.1 j a b]
      have l3 : loF S (smWay3 W S P.1 V) (P.1 + 3) := by
        unfold smWay3
        have s23 := sm (P.1 + 2) (P.1 + 3) (by omega) (by omega) (by omega)
        unfold wrF
        split
        · intro zz
          by_cases late : (plN W S (P.1 + 2) (plN W S (P.1 + 1) V).2).2 0 11 = 0
          · unfold ltF
            rw [if_neg (fun w => w late), jup_s]
            exact s23
          · rw [ltF_id late]
            exact loF_pl (by rw [hV1]; exact l2) s23 late
        · exact loF_pl (by rw [hV1]; exact l2) s23
      refine sX11_tellWay_129 (c_takesIntR (B := W (P.1 + 3) = 0) x7 n3 z3 (by rw [e3]; exact l3) (by rw [e3]; intro a d; omega) (fun m8 x8 z8 e64 => ⟨fun _ => ?_, fun w => absurd (by decide) w⟩) (fun m8 x8 z8 => ⟨fun w => absurd rfl w, fun _ => bad _ _ _ _ _ y7 x8 z8 (by rw [ey, stq_f z8])⟩))
      generalize hP4 : stq K S 23 P3 = P4 at *
      have n5 : P4.1 ≤ n := by rw [← hP4]; exact stq_n hv n3 (by decide)
      have e4 : P4.1 = P.1 + 4 := by rw [← hP4, stq_1 (by rw [hP4]; exact z8)]; omega
      rw [e3] at x8 e64
      rw [e64]
      generalize hV4 : wrF S (W (P.1 + 3) = 0) (P.1 + 3) (smWay3 W S P.1 V) = V4 at *
      have E4 : ∀ j, j ≠ 11 → j ≠ 12 → V4 0 j = V 0 j := fun j a b => by rw [← hV4, wrF_V.1 j a b, E3 j a b]
      have l4 : loF S V4 (P.1 + 4) := by rw [← hV4]; exact loF_wr l3 (sm _ _ (by omega) (by omega) (by omega))
      have x9 := rX_cell (q := 151) (i := 24 * k + V 0 1) (x := W (P.1 + 3)) x8 (Or.inl ⟨by decide, by decide, by rw [E4 1 (by decide) (by decide)]⟩)
      have y9 : rdY k m (jup m8 151 (24 * k + V 0 1) (W (P.1 + 3))) := rdY_up (rdY_tr y7 (rdY_H x8.1)) (by unfold okY; omega)
      refine ⟨by omega, by omega, c_takesIntR (B := W (P.1 + 4) = 0 ∨ 99 < W (P.1 + 4)) x9 n5 z8 (by rw [e4]; exact l4) (by rw [e4]; intro a d; omega) (fun mA xA zA eA => ⟨fun _ => ?_, fun w => absurd (by decide) w⟩) (fun mA xA zA => ⟨fun w => absurd rfl w, fun _ => bad _ _ _ _ _ y9 xA zA ey⟩)⟩
      rw [e4] at xA eA
      have e5 : syWay K S V P = stq K S 23 P4 := ey
      generalize hP5 : stq K S 23 P4 = P5 at *
      have n6 : P5.1 ≤ n := by rw [← hP5]; exact stq_n hv n5 (by decide)
      have e6 : P5.1 = P.1 + 5 := by rw [← hP5, stq_1 (by rw [hP5]; exact zA)]; omega
      have hV5 : wrF S (W (P.1 + 4) = 0 ∨ 99 < W (P.1 + 4)) (P.1 + 4) V4 = smWay5 W S P.1 V := by rw [← hV4]; rfl
      rw [hV5] at xA
      have E5 : ∀ j, j ≠ 11 → j ≠ 12 → smWay5 W S P.1 V 0 j = V 0 j := smWay5_0
      rw [eA]
      have xB := rX_cell (q := 152) (i := 24 * k + V 0 1) (x := W (P.1 + 4)) xA (Or.inl ⟨by decide, by decide, by rw [E5 1 (by decide) (by decide)]⟩)
      have yB : rdY k m (jup mA 152 (24 * k + V 0 1) (W (P.1 + 4))) := rdY_up (rdY_tr y9 (rdY_H xA.1)) (by unfold okY; omega)
      -- the cells
      have cells : smWay5 W S P.1 V 0 11 = 0 → (jup mA 152 (24 * k + V 0 1) (W (P.1 + 4))) 149 (24 * k + V 0 1) = (plN W S (P.1 + 1) V).1 ∧ (jup mA 152 (24 * k + V 0 1) (W (P.1 + 4))) 150 (24 * k + V 0 1) = (plN W S (P.1 + 2) V1).1 ∧ (jup mA 152 (24 * k + V 0 1) (W (P.1 + 4))) 151 (24 * k + V 0 1) = W (P.1 + 3) ∧ (jup mA 152 (24 * k + V 0 1) (W (P.1 + 4))) 152 (24 * k + V 0 1) = W (P.1 + 4) := by
        intro late
        have g := h7 (by
          rw [← hV5] at late
          have a := (wrF_0 late).1
          rw [← hV4] at a
          exact (wrF_0 a).1)
        rw [jup_ne (by decide), jup_ne (by decide), jup_ne (by decide), jup_s, rdH_row xA.1 (by decide) (by decide) (by decide), rdH_row xA.1 (q := 150) (by decide) (by decide) (by decide), rdH_row xA.1 (q := 151) (by decide) (by decide) (by decide), jup_ne (by decide), jup_ne (by decide), jup_s, rdH_row x8.1 (by decide) (by decide) (by decide), rdH_row x8.1 (q := 150) (by decide) (by decide) (by decide)]
        exact ⟨g.1, g.2, rfl, rfl⟩
      generalize hmB : jup mA 152 (24 * k + V 0 1) (W (P.1 + 4)) = mB at *
      -- bad or not, then the end
      have fin : ∀ e mC mD, e = (if K (P.1 + 5) = 12 then 1 else 0) → mC = jup mB 153 (24 * k + V 0 1) e → ∀ PE, PE.2.1 = 0 → sxWay K S V P = stq K S 24 PE → PE.1 ≤ n → rX K S W n k mC PE (smWay5 W S P.1 V) c mD → (0 ≤ mD 139 13 ∧ mD 139 13 < 3 ∧ (0 ≤ mD 139 13 ∧ mD 139 13 < 3 ∧ Q 1 (jup mD 148 (mD 139 13) (jw (mD 148 (mD 139 13) + 1))))) := by
        intro e mC mD he hC PE zE hE nE xD
        have dD := xD.2.2.2.1
        have g := dD.2.1.2.1
        rw [E5 1 (by decide) (by decide)] at g
        rw [dD.1.2.2, g, jw_id (x := V 0 1 + 1) (by omega) (by omega)]
        have yC : rdY k m mC := by rw [hC]; exact rdY_up yB (by unfold okY; omega)
        refine ⟨dD.1.1, dD.1.2.1, dD.1.1, dD.1.2.1, hQ 1 _ ⟨rdY_up (rdY_tr yC (rdY_H xD.1)) (by unfold okY; omega), rTk_cg xD.2.1 (fun q hq => jup_ne (by omega)), Or.inr ⟨rfl, PE, zE, hE, nE, rPs_cg xD.2.2.1 (fun i hi => by rw [jup_ne (by decide)]), ?_⟩⟩⟩
        have f := rMn_adW (a := (plN W S (P.1 + 1) V).1) (b := (plN W S (P.1 + 2) V1).1) (d := W (P.1 + 3)) (e := W (P.1 + 4)) (g := if K (P.1 + 5) = 12 then 1 else 0) xD.2.2.2 (by rw [E5 1 (by decide) (by decide)]; omega) (fun y => by
          have gg := cells y
          rw [E5 1 (by decide) (by decide), rdH_row xD.1 (by decide) (by decide) (by decide), rdH_row xD.1 (q := 150) (by decide) (by decide) (by decide), rdH_row xD.1 (q := 151) (by decide) (by decide) (by decide), rdH_row xD.1 (q := 152) (by decide) (by decide) (by decide), rdH_row xD.1 (q := 153) (by decide) (by decide) (by decide), hC, jup_ne (by decide), jup_ne (by decide), jup_ne (by decide), jup_ne (by decide), jup_s, he]
          exact ⟨gg.1, gg.2.1, gg.2.2.1, gg.2.2.2, rfl⟩)
        rw [E5 1 (by decide) (by decide)] at f
        unfold smWay
        rw [hV1]
        exact f
      refine ⟨by omega, by omega, c_isWordR (kk := 12) xB n6 (by decide) (by decide) (by decide) (fun kb => ?_) (fun kb => ?_)⟩
      · have xC := rX_cell (q := 153) (i := 24 * k + V 0 1) (x := 1) xB (Or.inl ⟨by decide, by decide, by rw [E5 1 (by decide) (by decide)]⟩)
        refine ⟨by omega, by omega, Or.inr rfl, by omega, by omega, fun w => absurd w (by decide), fun _ => ?_⟩
        refine c_passR (kk := 12) xC n6 zA kb (fun mD xD zD => ⟨fun _ => ?_, fun w => absurd (by decide) w⟩) (fun mD xD zD => ⟨fun w => absurd rfl w, fun _ => ?_⟩)
        · refine fin 1 _ mD (by rw [← e6, if_pos kb]) rfl _ zD ?_ (stq_n hv n6 (by decide)) xD
          unfold sxWay
          rw [e5, if_pos kb]
        · refine hQ 0 mD (rOut_0 xD (rdY_up yB (by unfold okY; omega)) zD ?_)
          unfold sxWay
          rw [e5, if_pos kb, stq_f zD]
      · have xC := rX_cell (q := 153) (i := 24 * k + V 0 1) (x := 0) xB (Or.inl ⟨by decide, by decide, by rw [E5 1 (by decide) (by decide)]⟩)
        refine ⟨by omega, by omega, Or.inl rfl, by omega, by omega, fun _ => ?_, fun w => absurd rfl w⟩
        refine fin 0 _ _ (by rw [← e6, if_neg kb]) rfl _ zA ?_ n6 xC
        unfold sxWay
        rw [e5, if_neg kb]
    -- are the names alike
    have x7 := rX_cell (q := 150) (i := 24 * k + V 0 1) (x := r2) x6 (Or.inl ⟨by decide, by decide, by rw [E2 1 (by decide) (by decide)]⟩)
    have y7 : rdY k m (jup m6 150 (24 * k + V 0 1) r2) := rdY_up (rdY_tr y5 (rdY_H x6.1)) (by unfold okY; omega)
    have late1 : V2 0 11 = 0 → V1 = V ∧ V2 = V ∧ r1 = (plN W S (P.1 + 1) V).1 ∧ r2 = (plN W S (P.1 + 2) V1).1 ∧ V 0 11 = 0 := by
      intro z2
      have b2 := plN_0 (W := W) (S := S) (tok := P.1 + 2) (V := V1) (by rw [hV2]; exact z2)
      have z1' : V1 0 11 = 0 := b2.1
      have b1 := plN_0 (W := W) (S := S) (tok := P.1 + 1) (V := V) (by rw [hV1]; exact z1')
      have eV1 : V1 = V := by rw [← hV1]; exact b1.2.1
      refine ⟨eV1, by rw [← hV2, b2.2.1]; exact eV1, hr1 z1', hr2 z2, b1.1⟩
    have alike : V2 0 11 = 0 → (jcmp (m6 144 (P.1 + 1)) (m6 144 (P.1 + 2)) ≠ 0 ↔ ¬ ((plN W S (P.1 + 1) V).1 ≠ -1 ∧ (plN W S (P.1 + 1) V).1 = (plN W S (P.1 + 2) V1).1)) := by
      intro z2
      obtain ⟨a1, a2, a3, a4, a5⟩ := late1 z2
      have b2 := plN_0 (W := W) (S := S) (tok := P.1 + 2) (V := V1) (by rw [hV2]; exact z2)
      have b1 := plN_0 (W := W) (S := S) (tok := P.1 + 1) (V := V) (by rw [hV1, a1]; exact a5)
      obtain ⟨u, u1, u2, u3⟩ := (x6.2.1.1 (P.1 + 1) (by omega) (by omega)).2.2.2.2.2.2.2 (by omega) (by omega)
      obtain ⟨v, v1, v2, v3⟩ := (x6.2.1.1 (P.1 + 2) (by omega) (by omega)).2.2.2.2.2.2.2 (by omega) (by omega)
      have i1 := (ix_in (V := V) (x := W (P.1 + 1)) hI.1).resolve_left (fun y => b1.2.2.2.1 y.1)
      rw [a1] at b2
      have i2 := (ix_in (V := V) (x := W (P.1 + 2)) hI.1).resolve_left (fun y => b2.2.2.2.1 y.1)
      rw [jcmp_ne, u3, v3, a1, b1.2.2.1, b2.2.2.1]
      constructor
      · rintro g ⟨-, g2⟩
        apply g
        have ie : ix V (W (P.1 + 1)) = ix V (W (P.1 + 2)) := by
          rcases Int.lt_trichotomy (ix V (W (P.1 + 1))) (ix V (W (P.1 + 2))) with y | y | y
          · exact absurd (hI.2.2.2 _ _ i1.1 y i2.2.1 g2) b1.2.2.2.2
          · exact y
          · exact absurd (hI.2.2.2 _ _ i2.1 y i1.2.1 g2.symm) b2.2.2.2.2
        have we : W (P.1 + 1) = W (P.1 + 2) := by rw [← i1.2.2.1, ie]; exact i2.2.2.1
        rw [u2, v2] at we
        rw [vB_inj (by decide) u1.1 v1.1 we]
      · intro g e
        apply g
        have we : u = v := vB_inj (by decide) u1.1 v1.1 e
        have ww : W (P.1 + 1) = W (P.1 + 2) := by rw [u2, v2, we]
        rw [ww]
        refine ⟨?_, rfl⟩
        exact b2.2.2.2.2
    have hsm : ∀ (hB : V2 0 11 = 0 → ¬ ((plN W S (P.1 + 1) V).1 ≠ -1 ∧ (plN W S (P.1 + 1) V).1 = (plN W S (P.1 + 2) V1).1)), smWay3 W S P.1 V = V2 := by
      intro hB
      unfold smWay3
      rw [hV1, hV2]
      unfold wrF
      split
      · rename_i g
        by_cases late : V2 0 11 = 0
        · exact absurd g (hB late)
        · exact ltF_id late
      · rfl
    have cell7 : V2 0 11 = 0 → (jup m6 150 (24 * k + V 0 1) r2) 149 (24 * k + V 0 1) = (plN W S (P.1 + 1) V).1 ∧ (jup m6 150 (24 * k + V 0 1) r2) 150 (24 * k + V 0 1) = (plN W S (P.1 + 2) V1).1 := by
      intro z2
      obtain ⟨a1, a2, a3, a4, a5⟩ := late1 z2
      rw [jup_ne (by decide), jup_s, a149]
      exact ⟨a3, a4⟩
    refine ⟨by omega, by omega, by omega, by omega, by omega, by omega, fun z5 => ?_, fun z5 => ⟨by omega, by omega, fun z6 => ?_, fun z6 => ?_⟩⟩
    · have e := hsm (fun late => (alike late).mp z5)
      exact tail _ (by rw [e]; exact x7) y7 (by rw [e]; exact cell7)
    · rw [a149] at z6
      have e := hsm (fun late g => by
        have := (late1 late).2.2.1
        have b1 := plN_0 (W := W) (S := S) (tok := P.1 + 1) (V := V) (by rw [hV1, (late1 late).1]; exact (late1 late).2.2.2.2)
        have i1 := (ix_in (V := V) (x := W (P.1 + 1)) hI.1).resolve_left (fun y => b1.2.2.2.1 y.1)
        have := hI.2.2.1 _ i1.1 i1.2.1
        have := b1.2.2.1
        have := b1.2.2.2.2
        omega)
      exact tail _ (by rw [e]; exact x7) y7 (by rw [e]; exact cell7)
    · rw [a149] at z6
      refine c_tellsR x7 (by omega) (by omega) (by decide) (fun late => ?_) (fun m8 x8 f8 => ?_)
      · by_cases l1' : V1 0 11 = 0
        · right
          have e : V2 = ltF S 4 (P.1 + 2) V1 := by
            rw [← hV2] at late ⊢
            unfold plN at late ⊢
            split
            · rfl
            · split
              · rfl
              · rename_i g1 g2
                rw [if_neg g1, if_neg g2] at late
                exact absurd l1' late
          rw [e]
          unfold ltF
          rw [if_neg (fun w => w l1'), jup_s, jup_j (by decide), jup_s]
          exact ⟨rfl, by decide⟩
        · left
          have e : V2 = V1 := by rw [← hV2]; exact plN_late l1'
          rw [e]
          exact l2 l1'
      · have e : smWay3 W S P.1 V = ltF S 5 (P.1 + 2) V2 := by
          by_cases late : V2 0 11 = 0
          · have g : ¬ ¬ ((plN W S (P.1 + 1) V).1 ≠ -1 ∧ (plN W S (P.1 + 1) V).1 = (plN W S (P.1 + 2) V1).1) := fun w => z5 ((alike late).mpr w)
            unfold smWay3
            rw [hV1, hV2]
            unfold wrF
            rw [if_pos (Classical.byContradiction g)]
          · rw [ltF_id late]
            exact hsm (fun y => absurd y late)
        refine tail m8 (rX_base (by rw [e]; exact x8)) (rdY_tr y7 (rdY_H x8.1)) (fun y => absurd y (by rw [e]; exact ltF_11 (by decide)))
  · have rm : rmF S (V 0 1) 24 P = flF S 2 P := by unfold rmF; rw [if_neg (by omega)]
    have ne : (flF S 2 P).2.1 ≠ 0 := flF_ne (by decide)
    refine c_wrongR h hn h0 (by decide) (fun m1 x1 => ⟨Or.inl rfl, hQ 0 m1 (rOut_0 x1 rdY_rf ne ?_)⟩)
    have e : syWay K S V P = flF S 2 P := by
      unfold syWay
      rw [rm, stq_f ne, stq_f ne, stq_f ne, stq_f ne, stq_f ne]
    unfold sxWay
    rw [e]
    split
    · rw [stq_f ne, stq_f ne]
    · rw [stq_f ne]

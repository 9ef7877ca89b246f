/-! the reference's TELLs but rights -/
/-- how a TELL of the reference ends: PF is what is read with its semicolon -/
def rOut (K S W : Int → Int) (n k : Int) (m : jM) (PF : Int × Int × Int) (V' : jM) (c' r : Int) (m' : jM) : Prop := rdY k m m' ∧ rTk K S W n m' ∧ ((r = 0 ∧ PF.2.1 ≠ 0 ∧ rPs PF m') ∨ (r = 1 ∧ ∃ Pi : Int × Int × Int, Pi.2.1 = 0 ∧ PF = stq K S 24 Pi ∧ Pi.1 ≤ n ∧ rPs Pi m' ∧ rMn V' c' k m'))
theorem rOut_0 {K S W : Int → Int} {n k c c' : Int} {m m0 m' V V' : jM} {PF P : Int × Int × Int} (hx : rX K S W n k m0 P V c m') (hy : rdY k m m0) (hz : P.2.1 ≠ 0) (e : PF = P) : rOut K S W n k m PF V' c' 0 m' := by
  subst e
  exact ⟨rdY_tr hy (rdY_H hx.1), hx.2.1, Or.inl ⟨rfl, hz, hx.2.2.1⟩⟩
theorem loF_mn {S : Int → Int} {V : jM} {a b : Int} (h : loF S V a) (hs : S a ≤ S b) : loF S V b := fun z => by have := h z; omega
theorem loF_V {S : Int → Int} {V V' : jM} {a : Int} (h : loF S V a) (h11 : V' 0 11 = V 0 11) (h12 : V' 0 12 = V 0 12) : loF S V' a := by
  unfold loF at *
  rw [h11, h12]
  exact h
theorem loF_wr {S : Int → Int} {B : Prop} [Decidable B] {V : jM} {a b : Int} (h : loF S V a) (hs : S a < S b) : loF S (wrF S B a V) b := by
  unfold wrF
  by_cases c : B
  · rw [if_pos c]; exact loF_lt h hs
  · rw [if_neg c]; exact loF_mn h (by omega)
theorem loF_pl {W S : Int → Int} {V : jM} {a b : Int} (h : loF S V a) (hs : S a < S b) : loF S (plN W S a V).2 b := by
  unfold plN
  split
  · exact loF_lt h hs
  · split
    · exact loF_lt h hs
    · exact loF_mn h (by show S a ≤ S b; omega)
theorem loF_tl {W S : Int → Int} {V : jM} {a b w : Int} (h : loF S V a) (hs : S a < S b) : loF S (tlN W S a w V) b := by
  unfold tlN
  split
  · exact loF_lt h hs
  · exact loF_V (loF_mn h (by omega)) (by rw [jup_j (by decide), jup_ne (by decide), jup_ne (by decide)]) (by rw [jup_j (by decide), jup_ne (by decide), jup_ne (by decide)])
theorem stq_1 {K S : Int → Int} {k : Int} {P : Int × Int × Int} (h : (stq K S k P).2.1 = 0) : (stq K S k P).1 = P.1 + 1 := by rw [(stq_ok h).2.2.2]
theorem c_placeR {K S W : Int → Int} {n k c : Int} {m V : jM} {P : Int × Int × Int} {Q : Int → jM → Prop} (h : rX K S W n k m P V c m) (hn : P.1 ≤ n) (h0 : P.2.1 = 0) (hv : tV K W n) (o : smOk V) (hc : c + 1 ≤ 24) (hI : nmI V) (hl : loF S V P.1) (hk : K P.1 = 0) (hQ : ∀ r m', rOut K S W n k m (sxPlace K S V P) (smPlace W S P.1 V) (c + 1) r m' → Q r m') : (0 ≤ (m 139 13) ∧ (m 139 13) < 3 ∧ (((m 147 (m 139 13)) ≠ 12 → ML iX11_pass [(2, 139)] m (fun r66 m67 => ((r66 = 0 → Q 0 m67) ∧ (¬ (r66 = 0) → (0 ≤ (m67 139 13) ∧ (m67 139 13) < 3 ∧ ML iX11_names [(2, 139), (0, (m67 147 (m67 139 13)))] m67 (fun r75 m76 => ((r75 ≠ 0 → (0 ≤ (m76 139 13) ∧ (m76 139 13) < 3 ∧ (0 ≤ (m76 139 13) ∧ (m76 139 13) < 3 ∧ Q 1 (jup m76 147 (m76 139 13) (jw ((m76 147 (m76 139 13)) + 1)))))) ∧ (¬ (r75 ≠ 0) → Q 0 m76)))))))) ∧ (¬ ((m 147 (m 139 13)) ≠ 12) → ML iX11_wrong [(2, 139), (0, 2)] m (fun r86 m87 => ((r86 = 0 ∨ r86 = 1) ∧ Q r86 m87))))) := by
  have c1 := h.2.2.2.1
  have o0 := o.1
  have p0 := h.2.2.1.1
  rw [c1.1.2.2, c1.2.1.1]
  refine ⟨c1.1.1, c1.1.2.1, fun z => ?_, fun z => ?_⟩
  · have rm : rmF S (V 0 0) 12 P = P := by unfold rmF; rw [if_pos (by have := o.2.1; omega)]
    refine c_passR (kk := 0) h hn h0 hk (fun m1 x1 z1 => ⟨fun w => absurd w (by decide), fun _ => ?_⟩) (fun m1 x1 z1 => ⟨fun _ => hQ 0 m1 (rOut_0 x1 rdY_rf z1 ?_), fun w => absurd rfl w⟩)
    · have d1 := x1.2.2.2.1
      have n1 : (stq K S 0 P).1 ≤ n := stq_n hv hn (by decide)
      have e1 : (stq K S 0 P).1 = P.1 + 1 := stq_1 z1
      have s1 := x1.2.1.2.1.2 P.1 (P.1 + 1) p0.1 (by omega) (by omega)
      have hl1 : loF S V (stq K S 0 P).1 := by rw [e1]; exact loF_mn hl (by omega)
      rw [d1.1.2.2, d1.2.1.1]
      refine ⟨d1.1.1, d1.1.2.1, c_namesR x1 n1 z1 hl1 hc hI (fun m2 x2 z2 => ⟨fun _ => ?_, fun w => absurd (by decide) w⟩) (fun m2 x2 z2 => ⟨fun w => absurd rfl w, fun _ => hQ 0 m2 (rOut_0 x2 rdY_rf z2 ?_)⟩)⟩
      · rw [e1] at x2
        have d2 := x2.2.2.2.1
        have e0 : tlN W S (P.1 + 1) (V 0 0) V 0 0 = V 0 0 := tlN_V.1 0 (by decide) (by decide) (by decide)
        have g47 := d2.2.1.1
        rw [e0] at g47
        rw [d2.1.2.2, g47, jw_id (x := V 0 0 + 1) (by omega) (by have := o.2.1; omega)]
        refine ⟨d2.1.1, d2.1.2.1, d2.1.1, d2.1.2.1, hQ 1 _ ⟨rdY_up (rdY_H x2.1) (by unfold okY; omega), rTk_cg x2.2.1 (fun q hq => jup_ne (by omega)), Or.inr ⟨rfl, _, z2, ?_, stq_n hv n1 (by decide), rPs_cg x2.2.2.1 (fun i hi => by rw [jup_ne (by decide)]), ?_⟩⟩⟩
        · unfold sxPlace; rw [rm]
        · unfold smPlace
          have E0 : ∀ j, j ≠ 0 → (jup (tlN W S (P.1 + 1) (V 0 0) V) 0 0 (V 0 0 + 1)) 0 j = tlN W S (P.1 + 1) (V 0 0) V 0 j := fun j hj => jup_j hj
          have M : ∀ q, q ≠ 147 → (jup m2 147 k (V 0 0 + 1)) q = m2 q := fun q hq => jup_ne hq
          refine ⟨⟨by rw [M 139 (by decide)]; exact d2.1, ?_, by rw [M 139 (by decide)]; exact d2.2.2.1, by rw [M 139 (by decide), E0 11 (by decide)]; exact d2.2.2.2.1, by rw [M 139 (by decide), E0 11 (by decide), E0 12 (by decide)]; exact d2.2.2.2.2⟩, fun y => ?_⟩
          · rw [jup_s, jup_s, M 148 (by decide), M 154 (by decide), M 157 (by decide), M 159 (by decide), E0 1 (by decide), E0 2 (by decide), E0 3 (by decide), E0 4 (by decide)]
            exact ⟨rfl, d2.2.1.2⟩
          · rw [E0 11 (by decide)] at y
            have R := x2.2.2.2.2 y
            exact ⟨rNa_V (rNa_cg R.1 (by rw [jup_ne (by decide)]) (fun q hq => jup_ne (by omega))) (E0 10 (by decide)) (jup_ne (by decide)) (jup_ne (by decide)), rRw_V (rRw_cg R.2 (fun q hq => jup_ne (by omega))) (fun j j0 j1 => E0 j (by omega)) (fun p p0 p1 => jup_ne (by omega))⟩
      · unfold sxPlace; rw [rm, stq_f z2]
    · unfold sxPlace; rw [rm, stq_f z1, stq_f z1]
  · have rm : rmF S (V 0 0) 12 P = flF S 2 P := by unfold rmF; rw [if_neg (by omega)]
    have ne : (flF S 2 P).2.1 ≠ 0 := flF_ne (by decide)
    refine c_wrongR h hn h0 (by decide) (fun m1 x1 => ⟨Or.inl rfl, hQ 0 m1 (rOut_0 x1 rdY_rf ne ?_)⟩)
    unfold sxPlace
    rw [rm, stq_f ne, stq_f ne, stq_f ne]
theorem c_numR {K S W : Int → Int} {n k c b which low : Int} {m V : jM} {P : Int × Int × Int} {B : Prop} [Decidable B] {Q : Int → jM → Prop} (h : rX K S W n k m P V c m) (hn : P.1 ≤ n) (h0 : P.2.1 = 0) (hv : tV K W n) (hl : loF S V P.1) (hk : K P.1 = b) (hb : b ≤ 33) (w0 : 0 ≤ which) (w1 : which < 7) (hB : 0 ≤ W (P.1 + 1) → W (P.1 + 1) ≤ 9999 → (B ↔ W (P.1 + 1) < low)) (hQ1 : ∀ m', rdY k m m' → rX K S W n k m' (stq K S 23 (stq K S b P)) (jup (wrF S B (P.1 + 1) V) 9 which (W (P.1 + 1))) c m' → (stq K S 23 (stq K S b P)).2.1 = 0 → Q 1 m') (hQ0 : ∀ m', rX K S W n k m (stq K S 23 (stq K S b P)) V c m' → (stq K S 23 (stq K S b P)).2.1 ≠ 0 → Q 0 m') : ML iX11_tellNumber [(2, 139), (0, which), (0, low)] m Q := by
  have p0 := h.2.2.1.1
  refine sX11_tellNumber (c_passR (kk := b) h hn h0 hk (fun m1 x1 z1 => ⟨fun w => absurd w (by decide), fun _ => ?_⟩) (fun m1 x1 z1 => ⟨fun _ => ?_, fun w => absurd rfl w⟩))
  · have n1 : (stq K S b P).1 ≤ n := stq_n hv hn hb
    have e1 : (stq K S b P).1 = P.1 + 1 := stq_1 z1
    have s1 := x1.2.1.2.1.2 P.1 (P.1 + 1) p0.1 (by omega) (by omega)
    have hl1 : loF S V (stq K S b P).1 := by rw [e1]; exact loF_mn hl (by omega)
    refine c_takesIntR (B := B) x1 n1 z1 hl1 (by rw [e1]; intro a d; have := hB a d; rw [this]; omega) (fun m2 x2 z2 e64 => ⟨fun _ => ?_, fun w => absurd (by decide) w⟩) (fun m2 x2 z2 => ⟨fun w => absurd rfl w, fun _ => hQ0 m2 x2 z2⟩)
    rw [e1] at x2 e64
    have d2 := x2.2.2.2.1
    have kb := d2.1.1
    have kb2 := d2.1.2.1
    rw [d2.1.2.2, e64, jw_id (x := 7 * k) (by omega) (by omega), jw_id (x := 7 * k + which) (by omega) (by omega)]
    refine ⟨by omega, by omega, hQ1 _ (rdY_up (rdY_H x2.1) (by unfold okY; omega)) ⟨rdH_rf, rTk_cg x2.2.1 (fun q hq => jup_ne (by omega)), rPs_cg x2.2.2.1 (fun i hi => by rw [jup_ne (by decide)]), rMn_9 x2.2.2.2 w0 w1⟩ z2⟩
  · have e : stq K S 23 (stq K S b P) = stq K S b P := stq_f z1
    rw [e] at hQ0
    exact hQ0 m1 x1 z1
theorem c_stopR {K S W : Int → Int} {n k c : Int} {m V : jM} {P : Int × Int × Int} {Q : Int → jM → Prop} (h : rX K S W n k m P V c m) (hn : P.1 ≤ n) (h0 : P.2.1 = 0) (hv : tV K W n) (o : smOk V) (hc : c + 1 ≤ 24) (hI : nmI V) (hl : loF S V P.1) (hk : K P.1 = 3) (hQ : ∀ r m', rOut K S W n k m (sxStop K S V P) (smStop W S P.1 V) (c + 1) r m' → Q r m') : ML iX11_tellStop [(2, 139)] m Q := by
  have c1 := h.2.2.2.1
  have o3 := o.2.2.2.2.2.2.1
  have o33 := o.2.2.2.2.2.2.2.1
  have p0 := h.2.2.1.1
  refine sX11_tellStop ?_
  rw [c1.1.2.2, c1.2.1.2.2.2.1]
  refine ⟨c1.1.1, c1.1.2.1, fun z => ⟨c1.1.1, c1.1.2.1, ?_⟩, fun z => ?_⟩
  · have rm : rmF S (V 0 3) 6 P = P := by unfold rmF; rw [if_pos (by omega)]
    have ex : sxStop K S V P = stq K S 24 (stq K S 22 (stq K S 11 (stq K S 22 (stq K S 3 P)))) := by unfold sxStop; rw [rm]
    rw [ex] at hQ
    refine c_passR (kk := 3) h hn h0 hk (fun m1 x1 z1 => ⟨fun w => absurd w (by decide), fun _ => ?_⟩) (fun m1 x1 z1 => ⟨fun _ => hQ 0 m1 (rOut_0 x1 rdY_rf z1 ?_), fun w => absurd rfl w⟩)
    · have n1 : (stq K S 3 P).1 ≤ n := stq_n hv hn (by decide)
      have e1 : (stq K S 3 P).1 = P.1 + 1 := stq_1 z1
      have s1 := x1.2.1.2.1.2 P.1 (P.1 + 1) p0.1 (by omega) (by omega)
      have hl1 : loF S V (stq K S 3 P).1 := by rw [e1]; exact loF_mn hl (by omega)
      refine c_namesR x1 n1 z1 hl1 hc hI (fun m2 x2 z2 => ⟨fun _ => ?_, fun w => absurd (by decide) w⟩) (fun m2 x2 z2 => ⟨fun w => absurd rfl w, fun _ => hQ 0 m2 (rOut_0 x2 rdY_rf z2 (by rw [stq_f z2, stq_f z2, stq_f z2]))⟩)
      generalize hP2 : stq K S 22 (stq K S 3 P) = P2 at *
      have n2 : P2.1 ≤ n := by rw [← hP2]; exact stq_n hv n1 (by decide)
      have e2 : P2.1 = P.1 + 2 := by rw [← hP2, stq_1 (by rw [hP2]; exact z2)]; omega
      rw [e1] at x2
      refine c_isWordR (kk := 11) x2 n2 (by decide) (by decide) (by decide) (fun k11 => ⟨fun _ => ?_, fun w => absurd (by decide) w⟩) (fun k11 => ⟨fun w => absurd rfl w, fun _ => ?_⟩)
      · refine c_passR (kk := 11) x2 n2 z2 k11 (fun m3 x3 z3 => ⟨fun _ => ?_, fun w => absurd (by decide) w⟩) (fun m3 x3 z3 => ⟨fun w => absurd rfl w, fun _ => hQ 0 m3 (rOut_0 x3 rdY_rf z3 (by rw [stq_f z3, stq_f z3]))⟩)
        generalize hP3 : stq K S 11 P2 = P3 at *
        have n3 : P3.1 ≤ n := by rw [← hP3]; exact stq_n hv n2 (by decide)
        have e3 : P3.1 = P.1 + 3 := by rw [← hP3, stq_1 (by rw [hP3]; exact z3)]; omega
        have q3 := x3.2.2.1.2.1
        refine c_takesR (kk := 22) x3 n3 z3 (Or.inl ⟨rfl, rfl⟩) (fun m4 x4 z4 => ⟨fun _ => ?_, fun w => absurd (by decide) w⟩) (fun m4 x4 z4 => ⟨fun w => absurd rfl w, fun _ => hQ 0 m4 (rOut_0 x4 rdY_rf z4 (by rw [stq_f z4]))⟩)
        have k3 := (stq_ok z4).2.1
        have n4 : (stq K S 22 P3).1 ≤ n := stq_n hv n3 (by decide)
        have s3 := x4.2.1.2.1.2 (P.1 + 1) (P.1 + 3) (by omega) (by omega) (by omega)
        have I2 : nmI (tlN W S (P.1 + 1) (-1) V) := by
          have := nmI_tl (W := W) (S := S) (tok := P.1 + 1) hI o.1 (Or.inl rfl)
          exact nmI_V this (by rw [jup_s, if_pos rfl]; exact tlN_V.1 0 (by decide) (by decide) (by decide)) (by rw [jup_j (by decide)]) (jup_ne (by decide)).symm (jup_ne (by decide)).symm
        rw [q3, e3]
        rw [e3] at k3
        refine c_placeAtR x4 (by omega) (by omega) k3 I2 (loF_tl (by rw [e1] at hl1; exact hl1) s3) (fun r m5 x5 hr => ?_)
        have E3 : (smSc1 W S P.1 V).2 0 3 = V 0 3 := smSc1_V.1 3 (by decide) (by decide) (by decide)
        have x5' : rX K S W n k m (stq K S 22 P3) (smSc1 W S P.1 V).2 (c + 1) m5 := x5
        have d5 := x5'.2.2.2.1
        have kb := d5.1.1
        have kb2 := d5.1.2.1
        rw [jw_id (x := 6 * k) (by omega) (by omega), jw_id (x := 6 * k + V 0 3) (by omega) (by omega), d5.1.2.2]
        have x6 := rX_cell (q := 158) (i := 6 * k + V 0 3) (x := r) x5' (Or.inr (Or.inr ⟨rfl, by rw [E3]⟩))
        have g := d5.2.1.2.2.2.1
        rw [E3] at g
        rw [g, jw_id (x := V 0 3 + 1) (by omega) (by omega)]
        refine ⟨by omega, by omega, d5.1.1, d5.1.2.1, d5.1.1, d5.1.2.1, hQ 1 _ ⟨rdY_up (rdY_up (rdY_H x5'.1) (by unfold okY; omega)) (by unfold okY; omega), rTk_cg x6.2.1 (fun q hq => jup_ne (by omega)), Or.inr ⟨rfl, _, z4, rfl, n4, rPs_cg x6.2.2.1 (fun i hi => by rw [jup_ne (by decide)]), ?_⟩⟩⟩
        have f := rMn_adT (a := (smSc1 W S P.1 V).1) x6.2.2.2 (by rw [E3]; omega) (fun y => by rw [E3, jup_s]; exact hr y)
        rw [E3] at f
        exact f
      · have ne : (flF S 1 P2).2.1 ≠ 0 := flF_ne (by decide)
        have ef : stq K S 11 P2 = flF S 1 P2 := by
          unfold stq flF
          rw [if_neg (fun w => w z2), if_pos k11, if_neg (fun w => w z2)]
        refine c_wrongR x2 n2 z2 (by decide) (fun m3 x3 => ⟨Or.inl rfl, hQ 0 m3 (rOut_0 x3 rdY_rf ne (by rw [ef, stq_f ne, stq_f ne]))⟩)
    · rw [stq_f z1, stq_f z1, stq_f z1, stq_f z1]
  · have rm : rmF S (V 0 3) 6 P = flF S 2 P := by unfold rmF; rw [if_neg (by omega)]
    have ne : (flF S 2 P).2.1 ≠ 0 := flF_ne (by decide)
    refine c_wrongR h hn h0 (by decide) (fun m1 x1 => ⟨Or.inl rfl, hQ 0 m1 (rOut_0 x1 rdY_rf ne ?_)⟩)
    unfold sxStop
    rw [rm, stq_f ne, stq_f ne, stq_f ne, stq_f ne, stq_f ne]

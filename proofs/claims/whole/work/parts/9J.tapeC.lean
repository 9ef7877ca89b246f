/-! the class reads the tape -/
theorem xlp_I {K S Wv : Int → Int} {n : Int} (hv : tV K Wv n) : ∀ {f : Nat} {X : XR}, XI n X → (xlp K S Wv f X).1.2.1 = 0 → XI n (xlp K S Wv f X) ∧ X.1.1 ≤ (xlp K S Wv f X).1.1 := by
  intro f
  induction f with
  | zero => intro X h _; exact ⟨h, Int.le_refl _⟩
  | succ f ih =>
    intro X h hz
    simp only [xlp] at hz ⊢
    by_cases c : X.1.2.1 ≠ 0
    · rw [if_pos c] at hz ⊢
      exact ⟨h, Int.le_refl _⟩
    · rw [if_neg c] at hz ⊢
      by_cases d : X.2.2 0 20 = 0
      · rw [if_pos d] at hz ⊢
        by_cases e : K X.1.1 = 24
        · rw [if_pos e] at hz ⊢
          have x := XI_opr hv h d hz
          exact ⟨x.1, by rw [x.2.1]; omega⟩
        · rw [if_neg e] at hz ⊢
          by_cases w : (opr K S X).1.2.1 = 0
          · have x := XI_opr hv h d w
            have y := ih x.1 hz
            exact ⟨y.1, by have := x.2.1; have := y.2; omega⟩
          · rw [xlp_f w] at hz; exact absurd hz w
      · rw [if_neg d] at hz ⊢
        by_cases w : (opd K S Wv X).1.2.1 = 0
        · have x := XI_opd hv h w
          have y := ih x.1 hz
          exact ⟨y.1, by have := x.2; have := y.2; omega⟩
        · rw [xlp_f w] at hz; exact absurd hz w
theorem stq_ge {K S : Int → Int} {k : Int} {P : Int × Int × Int} : P.1 ≤ (stq K S k P).1 := by
  unfold stq
  split
  · exact Int.le_refl _
  · split
    · exact Int.le_refl _
    · split
      · exact Int.le_refl _
      · show P.1 ≤ P.1 + 1; omega
/-- what holds at a TELL's start -/
def teI (n : Int) (P : Int × Int × Int) (V : jM) : Prop := (0 ≤ P.1 ∧ P.1 ≤ n) ∧ smOk V ∧ 0 ≤ V 0 16 ∧ V 0 16 ≤ P.1
theorem smOk_up {V V' : jM} (h : smOk V) (h0 : ∀ j, 0 ≤ j → j ≤ 4 → V' 0 j = V 0 j) (h1 : V' 0 10 = V 0 10) : smOk V' := smOk_V h h0 h1
theorem teI_place {K S W : Int → Int} {n : Int} {P : Int × Int × Int} {V : jM} (hv : tV K W n) (h : teI n P V) (hz : (sxPlace K S V P).2.1 = 0) : teI n (sxPlace K S V P) (smPlace W S P.1 V) ∧ P.1 < (sxPlace K S V P).1 := by
  obtain ⟨⟨p0, p1⟩, o, c0, c1⟩ := h
  have s3 := stq_ok hz
  have s2 := stq_ok s3.1
  have s1 := stq_ok s2.1
  have s0 := rmF_ok s1.1
  have lt : P.1 < (sxPlace K S V P).1 := by
    unfold sxPlace
    rw [s3.2.2.2, s2.2.2.2, s1.2.2.2, s0.2.2]
    show P.1 < P.1 + 1 + 1 + 1
    omega
  have le : (sxPlace K S V P).1 ≤ n := stq_n hv (stq_n hv (stq_n hv (by rw [rmF_1]; exact p1) (by decide)) (by decide)) (by decide)
  have k := cdK_place (W := W) (S := S) (a := P.1) (V := V)
  have t10 := tlN_V (W := W) (S := S) (tok := P.1 + 1) (w := V 0 0) (V := V)
  have e0 : smPlace W S P.1 V 0 0 = V 0 0 + 1 := jup_s
  have ej : ∀ j, j ≠ 0 → smPlace W S P.1 V 0 j = tlN W S (P.1 + 1) (V 0 0) V 0 j := fun j hj => jup_j hj
  refine ⟨⟨⟨by omega, le⟩, ?_, by rw [k.1]; exact c0, by rw [k.1]; omega⟩, lt⟩
  unfold smOk at o ⊢
  rw [e0, ej 1 (by decide), ej 2 (by decide), ej 3 (by decide), ej 4 (by decide), ej 10 (by decide), t10.1 1 (by decide) (by decide) (by decide), t10.1 2 (by decide) (by decide) (by decide), t10.1 3 (by decide) (by decide) (by decide), t10.1 4 (by decide) (by decide) (by decide)]
  have := t10.2.2.2
  have := s0.2.1
  omega
theorem teI_way {K S W : Int → Int} {n : Int} {P : Int × Int × Int} {V : jM} (hv : tV K W n) (h : teI n P V) (hz : (sxWay K S V P).2.1 = 0) : teI n (sxWay K S V P) (smWay K W S P.1 V) ∧ P.1 < (sxWay K S V P).1 := by
  obtain ⟨⟨p0, p1⟩, o, c0, c1⟩ := h
  have n6 : (syWay K S V P).1 ≤ n := stq_n hv (stq_n hv (stq_n hv (stq_n hv (stq_n hv (by rw [rmF_1]; exact p1) (by decide)) (by decide)) (by decide)) (by decide)) (by decide)
  have s8 := stq_ok hz
  have z6 : (syWay K S V P).2.1 = 0 ∧ (syWay K S V P).1 ≤ (if K (syWay K S V P).1 = 12 then stq K S 12 (syWay K S V P) else syWay K S V P).1 ∧ (if K (syWay K S V P).1 = 12 then stq K S 12 (syWay K S V P) else syWay K S V P).1 ≤ n := by
    have q := s8.1
    by_cases c : K (syWay K S V P).1 = 12
    · rw [if_pos c] at q ⊢
      exact ⟨(stq_ok q).1, stq_ge, stq_n hv n6 (by decide)⟩
    · rw [if_neg c] at q ⊢
      exact ⟨q, Int.le_refl _, n6⟩
  have s5 := stq_ok z6.1
  have s4 := stq_ok s5.1
  have s3 := stq_ok s4.1
  have s2 := stq_ok s3.1
  have s1 := stq_ok s2.1
  have s0 := rmF_ok s1.1
  have l6 : P.1 < (syWay K S V P).1 := by
    unfold syWay
    rw [s5.2.2.2, s4.2.2.2, s3.2.2.2, s2.2.2.2, s1.2.2.2, s0.2.2]
    show P.1 < P.1 + 1 + 1 + 1 + 1 + 1
    omega
  have lt : P.1 < (sxWay K S V P).1 := by
    have : (if K (syWay K S V P).1 = 12 then stq K S 12 (syWay K S V P) else syWay K S V P).1 ≤ (sxWay K S V P).1 := stq_ge
    have := z6.2.1
    omega
  have le : (sxWay K S V P).1 ≤ n := stq_n hv z6.2.2 (by decide)
  have k := cdK_way (K := K) (W := W) (S := S) (a := P.1) (V := V)
  have e1 : smWay K W S P.1 V 0 1 = V 0 1 + 1 := by
    unfold smWay adW
    rw [jup_s, smWay5_0 1 (by decide) (by decide)]
  have ej : ∀ j, j ≠ 1 → j ≠ 11 → j ≠ 12 → smWay K W S P.1 V 0 j = V 0 j := fun j hj h1 h2 => by
    unfold smWay adW
    rw [jup_j hj, jup_ne (by decide), jup_ne (by decide), jup_ne (by decide), jup_ne (by decide), jup_ne (by decide)]
    exact smWay5_0 j h1 h2
  refine ⟨⟨⟨by omega, le⟩, ?_, by rw [k.1]; exact c0, by rw [k.1]; omega⟩, lt⟩
  unfold smOk at o ⊢
  rw [e1, ej 0 (by decide) (by decide) (by decide), ej 2 (by decide) (by decide) (by decide), ej 3 (by decide) (by decide) (by decide), ej 4 (by decide) (by decide) (by decide), ej 10 (by decide) (by decide) (by decide)]
  have := s0.2.1
  omega
theorem teI_right {K S W : Int → Int} {n : Int} {P : Int × Int × Int} {V : jM} (hv : tV K W n) (h : teI n P V) (hz : (xfR K S W V P).1.2.1 = 0) : teI n (xfR K S W V P).1 (smRight K S W V P) ∧ P.1 < (xfR K S W V P).1.1 := by
  obtain ⟨⟨p0, p1⟩, o, c0, c1⟩ := h
  have z0 : (x0R K S V P).1.2.1 = 0 := by
    apply Classical.byContradiction
    intro w
    have e : xfR K S W V P = x0R K S V P := xlp_f w
    rw [e] at hz
    exact w hz
  have s2 := stq_ok z0
  have s1 := stq_ok s2.1
  have s0 := rmF_ok s1.1
  have V0 : ∀ j, j < 20 → (x0R K S V P).2.2 0 j = V 0 j := fun j hj => by unfold x0R; simp only; rw [jup_j (by omega), jup_j (by omega), jup_j (by omega), jup_j (by omega)]
  have e2 : (x0R K S V P).1.1 = P.1 + 2 := by
    show (stq K S 13 (stq K S 4 (rmF S (V 0 4) 8 P))).1 = _
    rw [s2.2.2.2, s1.2.2.2, s0.2.2]
    show P.1 + 1 + 1 = _
    omega
  have n2 : (x0R K S V P).1.1 ≤ n := stq_n hv (stq_n hv (by rw [rmF_1]; exact p1) (by decide)) (by decide)
  have I0 : XI n (x0R K S V P) := by
    refine ⟨?_, fun _ => ⟨?_, ?_⟩, ?_, ?_, n2, ?_, fun w => ?_⟩
    · show (x0R K S V P).2.2 0 23 = 0
      unfold x0R; simp [jup]
    · unfold x0R; simp [jup]
    · show (0 : Int) ≤ 3; decide
    · rw [V0 16 (by decide), e2]
      show V 0 16 + ((0 : Nat) : Int) + 2 ≤ P.1 + 2
      omega
    · unfold x0R; simp [jup]
    · rw [V0 16 (by decide)]; exact c0
    · unfold x0R at w; simp [jup] at w
  have x : XI n (xfR K S W V P) ∧ (x0R K S V P).1.1 ≤ (xfR K S W V P).1.1 := xlp_I hv I0 hz
  have hl : ∀ j, j < 16 → (xfR K S W V P).2.2 0 j = V 0 j := fun j hj => (xlp_4 j hj).trans (V0 j (by omega))
  have ej : ∀ j, j ≠ 4 → smRight K S W V P 0 j = (xfR K S W V P).2.2 0 j := fun j hj => by unfold smRight; rw [jup_j hj, jup_ne (by decide)]
  have e4 : smRight K S W V P 0 4 = V 0 4 + 1 := jup_s
  have b := x.1.2.2.1
  have b6 := x.1.2.2.2.2.2.1
  refine ⟨⟨⟨by omega, x.1.2.2.2.2.1⟩, ?_, by rw [ej 16 (by decide)]; exact b6, by rw [ej 16 (by decide)]; omega⟩, by omega⟩
  unfold smOk at o ⊢
  rw [e4, ej 0 (by decide), ej 1 (by decide), ej 2 (by decide), ej 3 (by decide), ej 10 (by decide), hl 0 (by decide), hl 1 (by decide), hl 2 (by decide), hl 3 (by decide), hl 10 (by decide)]
  have := s0.2.1
  omega
theorem teI_school {K S W : Int → Int} {n : Int} {P : Int × Int × Int} {V : jM} (hv : tV K W n) (h : teI n P V) (hz : (sxSchool K S V P).2.1 = 0) : teI n (sxSchool K S V P) (smSchool W S P.1 V) ∧ P.1 < (sxSchool K S V P).1 := by
  obtain ⟨⟨p0, p1⟩, o, c0, c1⟩ := h
  have s6 := stq_ok hz
  have s5 := stq_ok s6.1
  have s4 := stq_ok s5.1
  have s3 := stq_ok s4.1
  have s2 := stq_ok s3.1
  have s1 := stq_ok s2.1
  have s0 := rmF_ok s1.1
  have lt : P.1 < (sxSchool K S V P).1 := by
    unfold sxSchool
    rw [s6.2.2.2, s5.2.2.2, s4.2.2.2, s3.2.2.2, s2.2.2.2, s1.2.2.2, s0.2.2]
    show P.1 < P.1 + 1 + 1 + 1 + 1 + 1 + 1
    omega
  have le : (sxSchool K S V P).1 ≤ n := stq_n hv (stq_n hv (stq_n hv (stq_n hv (stq_n hv (stq_n hv (by rw [rmF_1]; exact p1) (by decide)) (by decide)) (by decide)) (by decide)) (by decide)) (by decide)
  have k := cdK_school (W := W) (S := S) (a := P.1) (V := V)
  have sc := smSc1_V (W := W) (S := S) (a := P.1) (V := V)
  have ej : ∀ j, j ≠ 2 → j ≠ 11 → j ≠ 12 → smSchool W S P.1 V 0 j = (smSc1 W S P.1 V).2 0 j := fun j hj h1 h2 => by
    unfold smSchool adS
    rw [jup_j hj, jup_ne (by decide), jup_ne (by decide)]
    exact wrF_V.1 j h1 h2
  have e2 : smSchool W S P.1 V 0 2 = V 0 2 + 1 := by
    unfold smSchool adS
    rw [jup_s, wrF_V.1 2 (by decide) (by decide), sc.1 2 (by decide) (by decide) (by decide)]
  refine ⟨⟨⟨by omega, le⟩, ?_, by rw [k.1]; exact c0, by rw [k.1]; omega⟩, lt⟩
  unfold smOk at o ⊢
  rw [e2, ej 0 (by decide) (by decide) (by decide), ej 1 (by decide) (by decide) (by decide), ej 3 (by decide) (by decide) (by decide), ej 4 (by decide) (by decide) (by decide), ej 10 (by decide) (by decide) (by decide), sc.1 0 (by decide) (by decide) (by decide), sc.1 1 (by decide) (by decide) (by decide), sc.1 3 (by decide) (by decide) (by decide), sc.1 4 (by decide) (by decide) (by decide)]
  have := s0.2.1
  have := sc.2
  omega
theorem teI_stop {K S W : Int → Int} {n : Int} {P : Int × Int × Int} {V : jM} (hv : tV K W n) (h : teI n P V) (hz : (sxStop K S V P).2.1 = 0) : teI n (sxStop K S V P) (smStop W S P.1 V) ∧ P.1 < (sxStop K S V P).1 := by
  obtain ⟨⟨p0, p1⟩, o, c0, c1⟩ := h
  have s5 := stq_ok hz
  have s4 := stq_ok s5.1
  have s3 := stq_ok s4.1
  have s2 := stq_ok s3.1
  have s1 := stq_ok s2.1
  have s0 := rmF_ok s1.1
  have lt : P.1 < (sxStop K S V P).1 := by
    unfold sxStop
    rw [s5.2.2.2, s4.2.2.2, s3.2.2.2, s2.2.2.2, s1.2.2.2, s0.2.2]
    show P.1 < P.1 + 1 + 1 + 1 + 1 + 1
    omega
  have le : (sxStop K S V P).1 ≤ n := stq_n hv (stq_n hv (stq_n hv (stq_n hv (stq_n hv (by rw [rmF_1]; exact p1) (by decide)) (by decide)) (by decide)) (by decide)) (by decide)
  have k := cdK_stop (W := W) (S := S) (a := P.1) (V := V)
  have sc := smSc1_V (W := W) (S := S) (a := P.1) (V := V)
  have ej : ∀ j, j ≠ 3 → smStop W S P.1 V 0 j = (smSc1 W S P.1 V).2 0 j := fun j hj => by
    unfold smStop adT
    rw [jup_j hj, jup_ne (by decide)]
  have e3 : smStop W S P.1 V 0 3 = V 0 3 + 1 := by
    unfold smStop adT
    rw [jup_s, sc.1 3 (by decide) (by decide) (by decide)]
  refine ⟨⟨⟨by omega, le⟩, ?_, by rw [k.1]; exact c0, by rw [k.1]; omega⟩, lt⟩
  unfold smOk at o ⊢
  rw [e3, ej 0 (by decide), ej 1 (by decide), ej 2 (by decide), ej 4 (by decide), ej 10 (by decide), sc.1 0 (by decide) (by decide) (by decide), sc.1 1 (by decide) (by decide) (by decide), sc.1 2 (by decide) (by decide) (by decide), sc.1 4 (by decide) (by decide) (by decide)]
  have := s0.2.1
  have := sc.2
  omega
theorem teI_rule {K S W : Int → Int} {n b : Int} {P : Int × Int × Int} {V : jM} (hv : tV K W n) (h : teI n P V) (hb : b ≤ 33) (hz : (sxRule K S b P).2.1 = 0) : teI n (sxRule K S b P) (smRule W S b P.1 V) ∧ P.1 < (sxRule K S b P).1 := by
  obtain ⟨⟨p0, p1⟩, o, c0, c1⟩ := h
  have s3 := stq_ok hz
  have s2 := stq_ok s3.1
  have s1 := stq_ok s2.1
  have lt : P.1 < (sxRule K S b P).1 := by
    unfold sxRule
    rw [s3.2.2.2, s2.2.2.2, s1.2.2.2]
    show P.1 < P.1 + 1 + 1 + 1
    omega
  have le : (sxRule K S b P).1 ≤ n := stq_n hv (stq_n hv (stq_n hv p1 hb) (by decide)) (by decide)
  have k := cdK_rule (W := W) (S := S) (b := b) (a := P.1) (V := V)
  have ej : ∀ j, j ≠ 11 → j ≠ 12 → smRule W S b P.1 V 0 j = V 0 j := fun j h1 h2 => by
    unfold smRule
    rw [jup_ne (by decide)]
    exact wrF_V.1 j h1 h2
  exact ⟨⟨⟨by omega, le⟩, smOk_up o (fun j j0 j1 => ej j (by omega) (by omega)) (ej 10 (by decide) (by decide)), by rw [k.1]; exact c0, by rw [k.1]; omega⟩, lt⟩
theorem teI_bus {K S W : Int → Int} {n : Int} {P : Int × Int × Int} {V : jM} (hv : tV K W n) (h : teI n P V) (hz : (sxBus K S P).2.1 = 0) : teI n (sxBus K S P) (smBus W P.1 V) ∧ P.1 < (sxBus K S P).1 := by
  obtain ⟨⟨p0, p1⟩, o, c0, c1⟩ := h
  have s4 := stq_ok hz
  have s3 := stq_ok s4.1
  have s2 := stq_ok s3.1
  have s1 := stq_ok s2.1
  have lt : P.1 < (sxBus K S P).1 := by
    unfold sxBus
    rw [s4.2.2.2, s3.2.2.2, s2.2.2.2, s1.2.2.2]
    show P.1 < P.1 + 1 + 1 + 1 + 1
    omega
  have le : (sxBus K S P).1 ≤ n := stq_n hv (stq_n hv (stq_n hv (stq_n hv p1 (by decide)) (by decide)) (by decide)) (by decide)
  exact ⟨⟨⟨by omega, le⟩, smOk_up o (fun j _ _ => rfl) rfl, c0, by show V 0 16 ≤ _; omega⟩, lt⟩

/-! what TELLs keep: names, the late fault's place, the map and its laws -/
def lwI (S : Int → Int) (P : Int × Int × Int) (V : jM) : Prop := nmI V ∧ loF S V P.1 ∧ (V 0 11 = 0 → vKt V)
theorem vKt_cg {V V' : jM} (h : vKt V) (h0 : V 0 0 ≤ V' 0 0 ∧ V' 0 0 ≤ 12) (hj : ∀ j, 1 ≤ j → j ≤ 4 → V' 0 j = V 0 j) (hp : ∀ p, 1 ≤ p → p ≤ 9 → V' p = V p) : vKt V' := by
  obtain ⟨h1, h2, h3, h4, h5⟩ := h
  refine ⟨?_, fun i i0 i1 => ?_, fun i i0 i1 => ?_, fun i i0 i1 => ?_, fun i i0 i1 => ?_⟩
  · rw [hj 1 (by decide) (by decide), hj 2 (by decide) (by decide), hj 3 (by decide) (by decide), hj 4 (by decide) (by decide)]; omega
  · rw [hj 1 (by decide) (by decide)] at i1
    rw [hp 1 (by decide) (by decide), hp 2 (by decide) (by decide), hp 3 (by decide) (by decide), hp 4 (by decide) (by decide), hp 5 (by decide) (by decide)]
    have := h2 i i0 i1
    omega
  · rw [hj 2 (by decide) (by decide)] at i1
    rw [hp 6 (by decide) (by decide), hp 7 (by decide) (by decide)]
    have := h3 i i0 i1
    omega
  · rw [hj 3 (by decide) (by decide)] at i1
    rw [hp 8 (by decide) (by decide)]
    have := h4 i i0 i1
    omega
  · rw [hp 9 (by decide) (by decide)]; exact h5 i i0 i1
theorem tok_at {K S : Int → Int} {k : Int} {P : Int × Int × Int} (h : (stq K S k P).2.1 = 0) : P.2.1 = 0 ∧ K P.1 = k ∧ (stq K S k P).1 = P.1 + 1 := ⟨(stq_ok h).1, (stq_ok h).2.1, stq_1 h⟩
theorem lwI_place {K S W : Int → Int} {n : Int} {P : Int × Int × Int} {V : jM} (hv : tV K W n) (hk : kI K S n) (ht : teI n P V) (h : lwI S P V) (hz : (sxPlace K S V P).2.1 = 0) : lwI S (sxPlace K S V P) (smPlace W S P.1 V) := by
  obtain ⟨nm, lo, vk⟩ := h
  have p0 := ht.1.1
  have le : (sxPlace K S V P).1 ≤ n := stq_n hv (stq_n hv (stq_n hv (by rw [rmF_1]; exact ht.1.2) (by decide)) (by decide)) (by decide)
  have s3 := tok_at hz
  have s2 := tok_at s3.1
  have s1 := tok_at s2.1
  have s0 := rmF_ok s1.1
  have e : (sxPlace K S V P).1 = P.1 + 3 := by
    unfold sxPlace
    rw [s3.2.2, s2.2.2, s1.2.2, s0.2.2]; omega
  have sm := hk.2
  have z0 := ht.2.1.1
  have m1 := sm P.1 (P.1 + 1) p0 (by omega) (by omega)
  have m3 := sm (P.1 + 1) (P.1 + 3) (by omega) (by omega) (by omega)
  have ej : ∀ j, j ≠ 0 → smPlace W S P.1 V 0 j = tlN W S (P.1 + 1) (V 0 0) V 0 j := fun j hj => jup_j hj
  refine ⟨?_, ?_, fun z => ?_⟩
  · have g := nmI_tl (W := W) (S := S) (tok := P.1 + 1) nm z0 (Or.inr rfl)
    rw [if_neg (by omega)] at g
    exact g
  · rw [e]
    exact loF_V (loF_tl (loF_mn lo (by omega)) m3) (ej 11 (by decide)) (ej 12 (by decide))
  · rw [ej 11 (by decide)] at z
    have g := vk (tlN_0 z).1
    have e0 : smPlace W S P.1 V 0 0 = V 0 0 + 1 := jup_s
    exact vKt_cg g (by rw [e0]; have := s0.2.1; omega) (fun j j0 j1 => by rw [ej j (by omega)]; exact tlN_V.1 j (by omega) (by omega) (by omega)) (fun p p0 p1 => by
      show jup _ 0 0 _ p = _
      rw [jup_ne (by omega)]; exact tlN_V.2.1 p (by omega) (by omega) (by omega))
theorem lwI_way {K S W : Int → Int} {n : Int} {P : Int × Int × Int} {V : jM} (hv : tV K W n) (hk : kI K S n) (ht : teI n P V) (h : lwI S P V) (hz : (sxWay K S V P).2.1 = 0) : lwI S (sxWay K S V P) (smWay K W S P.1 V) := by
  obtain ⟨nm, lo, vk⟩ := h
  have p0 := ht.1.1
  have n6 : (syWay K S V P).1 ≤ n := stq_n hv (stq_n hv (stq_n hv (stq_n hv (stq_n hv (by rw [rmF_1]; exact ht.1.2) (by decide)) (by decide)) (by decide)) (by decide)) (by decide)
  have s8 := stq_ok hz
  have z6 : (syWay K S V P).2.1 = 0 ∧ (syWay K S V P).1 ≤ (if K (syWay K S V P).1 = 12 then stq K S 12 (syWay K S V P) else syWay K S V P).1 ∧ (if K (syWay K S V P).1 = 12 then stq K S 12 (syWay K S V P) else syWay K S V P).1 ≤ n := by
    have q := s8.1
    by_cases c : K (syWay K S V P).1 = 12
    · rw [if_pos c] at q ⊢
      exact ⟨(stq_ok q).1, stq_ge, stq_n hv n6 (by decide)⟩
    · rw [if_neg c] at q ⊢
      exact ⟨q, Int.le_refl _, n6⟩
  have le : (sxWay K S V P).1 ≤ n := stq_n hv z6.2.2 (by decide)
  have s5 := tok_at z6.1
  have s4 := tok_at s5.1
  have s3 := tok_at s4.1
  have s2 := tok_at s3.1
  have s1 := tok_at s2.1
  have s0 := rmF_ok s1.1
  have e1 : (stq K S 1 (rmF S (V 0 1) 24 P)).1 = P.1 + 1 := by rw [s1.2.2, s0.2.2]
  have e2 : (stq K S 22 (stq K S 1 (rmF S (V 0 1) 24 P))).1 = P.1 + 2 := by rw [s2.2.2]; omega
  have e3 : (stq K S 22 (stq K S 22 (stq K S 1 (rmF S (V 0 1) 24 P)))).1 = P.1 + 3 := by rw [s3.2.2]; omega
  have e4 : (stq K S 23 (stq K S 22 (stq K S 22 (stq K S 1 (rmF S (V 0 1) 24 P))))).1 = P.1 + 4 := by rw [s4.2.2]; omega
  have e5 : (syWay K S V P).1 = P.1 + 5 := by unfold syWay; rw [s5.2.2]; omega
  have k3 := s4.2.1
  have k4 := s5.2.1
  rw [e3] at k3
  rw [e4] at k4
  have up : P.1 + 6 ≤ (sxWay K S V P).1 := by
    have q : (sxWay K S V P).1 = (if K (syWay K S V P).1 = 12 then stq K S 12 (syWay K S V P) else syWay K S V P).1 + 1 := stq_1 hz
    have := z6.2.1
    omega
  have w3 := hv.2.2 (P.1 + 3) (by omega) (by omega) k3
  have w4 := hv.2.2 (P.1 + 4) (by omega) (by omega) k4
  have sm := hk.2
  have m0 := sm P.1 (P.1 + 1) p0 (by omega) (by omega)
  have m1 := sm (P.1 + 1) (P.1 + 2) (by omega) (by omega) (by omega)
  have m2 := sm (P.1 + 2) (P.1 + 3) (by omega) (by omega) (by omega)
  have m3 := sm (P.1 + 3) (P.1 + 4) (by omega) (by omega) (by omega)
  have m4 := sm (P.1 + 4) (sxWay K S V P).1 (by omega) (by omega) le
  have ej : ∀ j, j ≠ 1 → smWay K W S P.1 V 0 j = smWay5 W S P.1 V 0 j := fun j hj => by
    unfold smWay adW
    rw [jup_j hj, jup_ne (by decide), jup_ne (by decide), jup_ne (by decide), jup_ne (by decide), jup_ne (by decide)]
  have ep : ∀ p, p ≠ 0 → ¬ (1 ≤ p ∧ p ≤ 5) → smWay K W S P.1 V p = V p := fun p a b => by
    unfold smWay adW
    rw [jup_ne a, jup_ne (by omega), jup_ne (by omega), jup_ne (by omega), jup_ne (by omega), jup_ne (by omega)]
    exact smWay5_p p a
  refine ⟨nmI_V nm ((ej 0 (by decide)).trans (smWay5_0 0 (by decide) (by decide))) ((ej 10 (by decide)).trans (smWay5_0 10 (by decide) (by decide))) (ep 30 (by decide) (by decide)) (ep 31 (by decide) (by decide)), loF_V ?_ (ej 11 (by decide)) (ej 12 (by decide)), fun z => ?_⟩
  · have l1 : loF S (plN W S (P.1 + 1) V).2 (P.1 + 2) := loF_pl (loF_mn lo (by omega)) m1
    have l2 : loF S (plN W S (P.1 + 2) (plN W S (P.1 + 1) V).2).2 (P.1 + 3) := loF_pl l1 m2
    have l3 : loF S (smWay3 W S P.1 V) (P.1 + 3) := by
      unfold smWay3 wrF
      split
      · intro zz
        by_cases late : (plN W S (P.1 + 2) (plN W S (P.1 + 1) V).2).2 0 11 = 0
        · unfold ltF
          rw [if_neg (fun w => w late), jup_s]
          exact m2
        · rw [ltF_id late]
          exact l2 late
      · exact l2
    exact loF_wr (loF_wr l3 m3) m4
  · rw [ej 11 (by decide)] at z
    have a5 := wrF_0 z
    have a4 := wrF_0 a5.1
    have a3 := wrF_0 (B := (plN W S (P.1 + 1) V).1 ≠ -1 ∧ (plN W S (P.1 + 1) V).1 = (plN W S (P.1 + 2) (plN W S (P.1 + 1) V).2).1) a4.1
    have a2 := plN_0 a3.1
    have a1 := plN_0 a2.1
    have g := vk a1.1
    have i1 := (ix_in (V := V) (x := W (P.1 + 1)) nm.1).resolve_left (fun y => a1.2.2.2.1 y.1)
    have b1 := nm.2.2.1 _ i1.1 i1.2.1
    have q2 := a2.2.2
    rw [a1.2.1] at q2
    have i2 := (ix_in (V := V) (x := W (P.1 + 2)) nm.1).resolve_left (fun y => q2.2.1 y.1)
    have b2 := nm.2.2.1 _ i2.1 i2.2.1
    have e01 : smWay K W S P.1 V 0 1 = V 0 1 + 1 := by
      unfold smWay adW
      rw [jup_s, smWay5_0 1 (by decide) (by decide)]
    have e0j : ∀ j, j ≠ 1 → j ≠ 11 → j ≠ 12 → smWay K W S P.1 V 0 j = V 0 j := fun j a b c => (ej j a).trans (smWay5_0 j b c)
    obtain ⟨g1, g2, g3, g4, g5⟩ := g
    have r1 := s0.2.1
    have f1 := a1.2.2.1
    have f2 := q2.1
    have f1' := a1.2.2.2.2
    have f2' := q2.2.2
    have cell : ∀ i, smWay K W S P.1 V 1 i = (if i = V 0 1 then (plN W S (P.1 + 1) V).1 else V 1 i) ∧ smWay K W S P.1 V 2 i = (if i = V 0 1 then (plN W S (P.1 + 2) (plN W S (P.1 + 1) V).2).1 else V 2 i) ∧ smWay K W S P.1 V 3 i = (if i = V 0 1 then W (P.1 + 3) else V 3 i) ∧ smWay K W S P.1 V 4 i = (if i = V 0 1 then W (P.1 + 4) else V 4 i) ∧ smWay K W S P.1 V 5 i = (if i = V 0 1 then (if K (P.1 + 5) = 12 then 1 else 0) else V 5 i) := by
      intro i
      have c1 : smWay5 W S P.1 V 0 1 = V 0 1 := smWay5_0 1 (by decide) (by decide)
      have rp : ∀ p, p ≠ 0 → smWay5 W S P.1 V p = V p := smWay5_p
      unfold smWay adW
      rw [c1]
      refine ⟨?_, ?_, ?_, ?_, ?_⟩
      · rw [jup_ne (by decide), jup_ne (by decide), jup_ne (by decide), jup_ne (by decide), jup_ne (by decide), jup_self, rp 1 (by decide)]
      · rw [jup_ne (by decide), jup_ne (by decide), jup_ne (by decide), jup_ne (by decide), jup_self, jup_ne (by decide), rp 2 (by decide)]
      · rw [jup_ne (by decide), jup_ne (by decide), jup_ne (by decide), jup_self, jup_ne (by decide), jup_ne (by decide), rp 3 (by decide)]
      · rw [jup_ne (by decide), jup_ne (by decide), jup_self, jup_ne (by decide), jup_ne (by decide), jup_ne (by decide), rp 4 (by decide)]
      · rw [jup_ne (by decide), jup_self, jup_ne (by decide), jup_ne (by decide), jup_ne (by decide), jup_ne (by decide), rp 5 (by decide)]
    refine ⟨?_, fun i i0 i1 => ?_, fun i i0 i1 => ?_, fun i i0 i1 => ?_, fun i i0 i1 => ?_⟩
    · rw [e01, e0j 0 (by decide) (by decide) (by decide), e0j 2 (by decide) (by decide) (by decide), e0j 3 (by decide) (by decide) (by decide), e0j 4 (by decide) (by decide) (by decide)]
      omega
    · rw [e01] at i1
      have c := cell i
      rw [c.1, c.2.1, c.2.2.1, c.2.2.2.1, c.2.2.2.2, e0j 0 (by decide) (by decide) (by decide)]
      by_cases ei : i = V 0 1
      · rw [if_pos ei, if_pos ei, if_pos ei, if_pos ei, if_pos ei, a1.2.1]
        have n3 := a4.2
        have n4 := a5.2
        refine ⟨by omega, by omega, by omega, by omega, by omega, by omega, by omega, by omega, ?_⟩
        split
        · exact Or.inr rfl
        · exact Or.inl rfl
      · rw [if_neg ei, if_neg ei, if_neg ei, if_neg ei, if_neg ei]
        exact g2 i i0 (by omega)
    · rw [e0j 2 (by decide) (by decide) (by decide)] at i1
      rw [ep 6 (by decide) (by decide), ep 7 (by decide) (by decide), e0j 0 (by decide) (by decide) (by decide)]
      exact g3 i i0 i1
    · rw [e0j 3 (by decide) (by decide) (by decide)] at i1
      rw [ep 8 (by decide) (by decide), e0j 0 (by decide) (by decide) (by decide)]
      exact g4 i i0 i1
    · rw [ep 9 (by decide) (by decide)]
      exact g5 i i0 i1
theorem nmI_t1 {W S : Int → Int} {tok : Int} {V : jM} (h : nmI V) (h0 : 0 ≤ V 0 0) : nmI (tlN W S tok (-1) V) := by
  have := nmI_tl (W := W) (S := S) (tok := tok) h h0 (Or.inl rfl)
  exact nmI_V this (by rw [jup_s, if_pos rfl]; exact tlN_V.1 0 (by decide) (by decide) (by decide)) (by rw [jup_j (by decide)]) (jup_ne (by decide)).symm (jup_ne (by decide)).symm
/-- a place named behind a name told -/
theorem sc1_at {W S : Int → Int} {a : Int} {V : jM} (nm : nmI V) (h0 : 0 ≤ V 0 0) (z : (smSc1 W S a V).2 0 11 = 0) : V 0 11 = 0 ∧ 0 ≤ (smSc1 W S a V).1 ∧ (smSc1 W S a V).1 < V 0 0 := by
  have b := plN_0 z
  have c := tlN_0 b.1
  have nm1 := nmI_t1 (W := W) (S := S) (tok := a + 1) nm h0
  have i := (ix_in (V := tlN W S (a + 1) (-1) V) (x := W (a + 3)) nm1.1).resolve_left (fun y => b.2.2.2.1 y.1)
  have q := nm1.2.2.1 _ i.1 i.2.1
  have e0 : tlN W S (a + 1) (-1) V 0 0 = V 0 0 := tlN_V.1 0 (by decide) (by decide) (by decide)
  have e : (smSc1 W S a V).1 = tlN W S (a + 1) (-1) V 31 (ix (tlN W S (a + 1) (-1) V) (W (a + 3))) := b.2.2.1
  rw [e]
  have := b.2.2.2.2
  refine ⟨c.1, ?_, ?_⟩ <;> omega
theorem lwI_school {K S W : Int → Int} {n : Int} {P : Int × Int × Int} {V : jM} (hv : tV K W n) (hk : kI K S n) (ht : teI n P V) (h : lwI S P V) (hz : (sxSchool K S V P).2.1 = 0) : lwI S (sxSchool K S V P) (smSchool W S P.1 V) := by
  obtain ⟨nm, lo, vk⟩ := h
  have p0 := ht.1.1
  have z00 := ht.2.1.1
  have le : (sxSchool K S V P).1 ≤ n := stq_n hv (stq_n hv (stq_n hv (stq_n hv (stq_n hv (stq_n hv (by rw [rmF_1]; exact ht.1.2) (by decide)) (by decide)) (by decide)) (by decide)) (by decide)) (by decide)
  have s6 := tok_at hz
  have s5 := tok_at s6.1
  have s4 := tok_at s5.1
  have s3 := tok_at s4.1
  have s2 := tok_at s3.1
  have s1 := tok_at s2.1
  have s0 := rmF_ok s1.1
  have e4 : (stq K S 22 (stq K S 11 (stq K S 22 (stq K S 2 (rmF S (V 0 2) 3 P))))).1 = P.1 + 4 := by rw [s4.2.2, s3.2.2, s2.2.2, s1.2.2, s0.2.2]; omega
  have e6 : (sxSchool K S V P).1 = P.1 + 6 := by unfold sxSchool; rw [s6.2.2, s5.2.2]; omega
  have k4 := s5.2.1
  rw [e4] at k4
  have w4 := hv.2.2 (P.1 + 4) (by omega) (by omega) k4
  have sm := hk.2
  have m0 := sm P.1 (P.1 + 1) p0 (by omega) (by omega)
  have m1 := sm (P.1 + 1) (P.1 + 3) (by omega) (by omega) (by omega)
  have m3 := sm (P.1 + 3) (P.1 + 4) (by omega) (by omega) (by omega)
  have m4 := sm (P.1 + 4) (P.1 + 6) (by omega) (by omega) (by omega)
  have ej : ∀ j, j ≠ 2 → smSchool W S P.1 V 0 j = wrF S (1440 ≤ W (P.1 + 4)) (P.1 + 4) (smSc1 W S P.1 V).2 0 j := fun j hj => by
    unfold smSchool adS
    rw [jup_j hj, jup_ne (by decide), jup_ne (by decide)]
  have ep : ∀ p, p ≠ 0 → p ≠ 6 → p ≠ 7 → smSchool W S P.1 V p = (smSc1 W S P.1 V).2 p := fun p a b d => by
    unfold smSchool adS
    rw [jup_ne a, jup_ne d, jup_ne b]
    exact wrF_V.2 p a
  have nm1 : nmI (smSc1 W S P.1 V).2 := nmI_pl (nmI_t1 nm z00)
  refine ⟨nmI_V nm1 ((ej 0 (by decide)).trans (wrF_V.1 0 (by decide) (by decide))) ((ej 10 (by decide)).trans (wrF_V.1 10 (by decide) (by decide))) (ep 30 (by decide) (by decide) (by decide)) (ep 31 (by decide) (by decide) (by decide)), ?_, fun z => ?_⟩
  · rw [e6]
    exact loF_V (loF_wr (loF_pl (loF_tl (loF_mn lo (by omega)) m1) m3) m4) (ej 11 (by decide)) (ej 12 (by decide))
  · rw [ej 11 (by decide)] at z
    have a1 := wrF_0 z
    have b := sc1_at nm z00 a1.1
    obtain ⟨g1, g2, g3, g4, g5⟩ := vk b.1
    have e02 : smSchool W S P.1 V 0 2 = V 0 2 + 1 := by
      unfold smSchool adS
      rw [jup_s, wrF_V.1 2 (by decide) (by decide), smSc1_V.1 2 (by decide) (by decide) (by decide)]
    have e0j : ∀ j, j ≠ 2 → j ≠ 10 → j ≠ 11 → j ≠ 12 → smSchool W S P.1 V 0 j = V 0 j := fun j a b c d => by rw [ej j a, wrF_V.1 j c d, smSc1_V.1 j b c d]
    have ep2 : ∀ p, p ≠ 0 → p ≠ 6 → p ≠ 7 → p ≠ 30 → p ≠ 31 → smSchool W S P.1 V p = V p := fun p a b c d e => (ep p a b c).trans (smSc1_p p a d e)
    have r1 := s0.2.1
    have cell : ∀ i, smSchool W S P.1 V 6 i = (if i = V 0 2 then (smSc1 W S P.1 V).1 else V 6 i) ∧ smSchool W S P.1 V 7 i = (if i = V 0 2 then W (P.1 + 4) else V 7 i) := by
      intro i
      have c1 : wrF S (1440 ≤ W (P.1 + 4)) (P.1 + 4) (smSc1 W S P.1 V).2 0 2 = V 0 2 := (wrF_V.1 2 (by decide) (by decide)).trans (smSc1_V.1 2 (by decide) (by decide) (by decide))
      have rp : ∀ p, p ≠ 0 → p ≠ 30 → p ≠ 31 → wrF S (1440 ≤ W (P.1 + 4)) (P.1 + 4) (smSc1 W S P.1 V).2 p = V p := fun p a b c => (wrF_V.2 p a).trans (smSc1_p p a b c)
      unfold smSchool adS
      rw [c1]
      refine ⟨?_, ?_⟩
      · rw [jup_ne (by decide), jup_ne (by decide), jup_self, rp 6 (by decide) (by decide) (by decide)]
      · rw [jup_ne (by decide), jup_self, jup_ne (by decide), rp 7 (by decide) (by decide) (by decide)]
    refine ⟨?_, fun i i0 i1 => ?_, fun i i0 i1 => ?_, fun i i0 i1 => ?_, fun i i0 i1 => ?_⟩
    · rw [e02, e0j 0 (by decide) (by decide) (by decide) (by decide), e0j 1 (by decide) (by decide) (by decide) (by decide), e0j 3 (by decide) (by decide) (by decide) (by decide), e0j 4 (by decide) (by decide) (by decide) (by decide)]
      omega
    · rw [e0j 1 (by decide) (by decide) (by decide) (by decide)] at i1
      rw [e0j 0 (by decide) (by decide) (by decide) (by decide), ep2 1 (by decide) (by decide) (by decide) (by decide) (by decide), ep2 2 (by decide) (by decide) (by decide) (by decide) (by decide), ep2 3 (by decide) (by decide) (by decide) (by decide) (by decide), ep2 4 (by decide) (by decide) (by decide) (by decide) (by decide), ep2 5 (by decide) (by decide) (by decide) (by decide) (by decide)]
      exact g2 i i0 i1
    · rw [e02] at i1
      have c := cell i
      rw [c.1, c.2, e0j 0 (by decide) (by decide) (by decide) (by decide)]
      by_cases ei : i = V 0 2
      · rw [if_pos ei, if_pos ei]
        have n4 := a1.2
        omega
      · rw [if_neg ei, if_neg ei]
        exact g3 i i0 (by omega)
    · rw [e0j 3 (by decide) (by decide) (by decide) (by decide)] at i1
      rw [ep2 8 (by decide) (by decide) (by decide) (by decide) (by decide), e0j 0 (by decide) (by decide) (by decide) (by decide)]
      exact g4 i i0 i1
    · rw [ep2 9 (by decide) (by decide) (by decide) (by decide) (by decide)]
      exact g5 i i0 i1
theorem lwI_stop {K S W : Int → Int} {n : Int} {P : Int × Int × Int} {V : jM} (hv : tV K W n) (hk : kI K S n) (ht : teI n P V) (h : lwI S P V) (hz : (sxStop K S V P).2.1 = 0) : lwI S (sxStop K S V P) (smStop W S P.1 V) := by
  obtain ⟨nm, lo, vk⟩ := h
  have p0 := ht.1.1
  have z00 := ht.2.1.1
  have le : (sxStop K S V P).1 ≤ n := stq_n hv (stq_n hv (stq_n hv (stq_n hv (stq_n hv (by rw [rmF_1]; exact ht.1.2) (by decide)) (by decide)) (by decide)) (by decide)) (by decide)
  have s5 := tok_at hz
  have s4 := tok_at s5.1
  have s3 := tok_at s4.1
  have s2 := tok_at s3.1
  have s1 := tok_at s2.1
  have s0 := rmF_ok s1.1
  have e6 : (sxStop K S V P).1 = P.1 + 5 := by unfold sxStop; rw [s5.2.2, s4.2.2, s3.2.2, s2.2.2, s1.2.2, s0.2.2]; omega
  have sm := hk.2
  have m0 := sm P.1 (P.1 + 1) p0 (by omega) (by omega)
  have m1 := sm (P.1 + 1) (P.1 + 3) (by omega) (by omega) (by omega)
  have m3 := sm (P.1 + 3) (P.1 + 5) (by omega) (by omega) (by omega)
  have ej : ∀ j, j ≠ 3 → smStop W S P.1 V 0 j = (smSc1 W S P.1 V).2 0 j := fun j hj => by
    unfold smStop adT
    rw [jup_j hj, jup_ne (by decide)]
  have ep : ∀ p, p ≠ 0 → p ≠ 8 → smStop W S P.1 V p = (smSc1 W S P.1 V).2 p := fun p a b => by
    unfold smStop adT
    rw [jup_ne a, jup_ne b]
  have nm1 : nmI (smSc1 W S P.1 V).2 := nmI_pl (nmI_t1 nm z00)
  refine ⟨nmI_V nm1 (ej 0 (by decide)) (ej 10 (by decide)) (ep 30 (by decide) (by decide)) (ep 31 (by decide) (by decide)), ?_, fun z => ?_⟩
  · rw [e6]
    exact loF_V (loF_pl (loF_tl (loF_mn lo (by omega)) m1) m3) (ej 11 (by decide)) (ej 12 (by decide))
  · rw [ej 11 (by decide)] at z
    have b := sc1_at nm z00 z
    obtain ⟨g1, g2, g3, g4, g5⟩ := vk b.1
    have c1 : (smSc1 W S P.1 V).2 0 3 = V 0 3 := smSc1_V.1 3 (by decide) (by decide) (by decide)
    have e03 : smStop W S P.1 V 0 3 = V 0 3 + 1 := by
      unfold smStop adT
      rw [jup_s, c1]
    have e0j : ∀ j, j ≠ 3 → j ≠ 10 → j ≠ 11 → j ≠ 12 → smStop W S P.1 V 0 j = V 0 j := fun j a b c d => by rw [ej j a, smSc1_V.1 j b c d]
    have ep2 : ∀ p, p ≠ 0 → p ≠ 8 → p ≠ 30 → p ≠ 31 → smStop W S P.1 V p = V p := fun p a b d e => (ep p a b).trans (smSc1_p p a d e)
    have r1 := s0.2.1
    have cell : ∀ i, smStop W S P.1 V 8 i = (if i = V 0 3 then (smSc1 W S P.1 V).1 else V 8 i) := by
      intro i
      unfold smStop adT
      rw [c1, jup_ne (by decide), jup_self, smSc1_p 8 (by decide) (by decide) (by decide)]
    refine ⟨?_, fun i i0 i1 => ?_, fun i i0 i1 => ?_, fun i i0 i1 => ?_, fun i i0 i1 => ?_⟩
    · rw [e03, e0j 0 (by decide) (by decide) (by decide) (by decide), e0j 1 (by decide) (by decide) (by decide) (by decide), e0j 2 (by decide) (by decide) (by decide) (by decide), e0j 4 (by decide) (by decide) (by decide) (by decide)]
      omega
    · rw [e0j 1 (by decide) (by decide) (by decide) (by decide)] at i1
      rw [e0j 0 (by decide) (by decide) (by decide) (by decide), ep2 1 (by decide) (by decide) (by decide) (by decide), ep2 2 (by decide) (by decide) (by decide) (by decide), ep2 3 (by decide) (by decide) (by decide) (by decide), ep2 4 (by decide) (by decide) (by decide) (by decide), ep2 5 (by decide) (by decide) (by decide) (by decide)]
      exact g2 i i0 i1
    · rw [e0j 2 (by decide) (by decide) (by decide) (by decide)] at i1
      rw [ep2 6 (by decide) (by decide) (by decide) (by decide), ep2 7 (by decide) (by decide) (by decide) (by decide), e0j 0 (by decide) (by decide) (by decide) (by decide)]
      exact g3 i i0 i1
    · rw [e03] at i1
      rw [cell i, e0j 0 (by decide) (by decide) (by decide) (by decide)]
      by_cases ei : i = V 0 3
      · rw [if_pos ei]; exact b.2
      · rw [if_neg ei]
        exact g4 i i0 (by omega)
    · rw [ep2 9 (by decide) (by decide) (by decide) (by decide)]
      exact g5 i i0 i1
theorem vKt_9 {V : jM} {j x : Int} (h : vKt V) (x0 : 0 ≤ x) (x1 : x ≤ 9999) : vKt (jup V 9 j x) := by
  obtain ⟨g1, g2, g3, g4, g5⟩ := h
  refine ⟨g1, g2, g3, g4, fun i i0 i1 => ?_⟩
  rw [jup_self]
  split
  · exact ⟨x0, x1⟩
  · exact g5 i i0 i1
theorem lwI_rule {K S W : Int → Int} {n b : Int} {P : Int × Int × Int} {V : jM} (hv : tV K W n) (hk : kI K S n) (ht : teI n P V) (h : lwI S P V) (hb : b ≤ 33) (hz : (sxRule K S b P).2.1 = 0) : lwI S (sxRule K S b P) (smRule W S b P.1 V) := by
  obtain ⟨nm, lo, vk⟩ := h
  have p0 := ht.1.1
  have le : (sxRule K S b P).1 ≤ n := stq_n hv (stq_n hv (stq_n hv ht.1.2 hb) (by decide)) (by decide)
  have s3 := tok_at hz
  have s2 := tok_at s3.1
  have s1 := tok_at s2.1
  have e3 : (sxRule K S b P).1 = P.1 + 3 := by unfold sxRule; rw [s3.2.2, s2.2.2, s1.2.2]; omega
  have k1 := s2.2.1
  rw [s1.2.2] at k1
  have w1 := hv.2.2 (P.1 + 1) (by omega) (by omega) k1
  have m0 := hk.2 P.1 (P.1 + 1) p0 (by omega) (by omega)
  have m1 := hk.2 (P.1 + 1) (P.1 + 3) (by omega) (by omega) (by omega)
  unfold smRule
  refine ⟨nmI_V (nmI_wr nm) (by rw [jup_ne (by decide)]) (by rw [jup_ne (by decide)]) (jup_ne (by decide)) (jup_ne (by decide)), ?_, fun z => ?_⟩
  · rw [e3]
    exact loF_V (loF_wr (loF_mn lo (by omega)) m1) (by rw [jup_ne (by decide)]) (by rw [jup_ne (by decide)])
  · rw [jup_ne (by decide)] at z
    have a := wrF_0 z
    refine vKt_9 ?_ w1.1 w1.2
    have g := vk a.1
    exact vKt_cg g (by rw [wrF_V.1 0 (by decide) (by decide)]; exact ⟨Int.le_refl _, g.1.2.1⟩) (fun j j0 j1 => wrF_V.1 j (by omega) (by omega)) (fun p p0 p1 => wrF_V.2 p (by omega))
theorem lwI_bus {K S W : Int → Int} {n : Int} {P : Int × Int × Int} {V : jM} (hv : tV K W n) (hk : kI K S n) (ht : teI n P V) (h : lwI S P V) (hz : (sxBus K S P).2.1 = 0) : lwI S (sxBus K S P) (smBus W P.1 V) := by
  obtain ⟨nm, lo, vk⟩ := h
  have p0 := ht.1.1
  have le : (sxBus K S P).1 ≤ n := stq_n hv (stq_n hv (stq_n hv (stq_n hv ht.1.2 (by decide)) (by decide)) (by decide)) (by decide)
  have s4 := tok_at hz
  have s3 := tok_at s4.1
  have s2 := tok_at s3.1
  have s1 := tok_at s2.1
  have e4 : (sxBus K S P).1 = P.1 + 4 := by unfold sxBus; rw [s4.2.2, s3.2.2, s2.2.2, s1.2.2]; omega
  have k1 := s2.2.1
  have k2 := s3.2.1
  rw [s1.2.2] at k1
  rw [s2.2.2, s1.2.2, show P.1 + 1 + 1 = P.1 + 2 by omega] at k2
  have w1 := hv.2.2 (P.1 + 1) (by omega) (by omega) k1
  have w2 := hv.2.2 (P.1 + 2) (by omega) (by omega) k2
  have m1 := hk.2 P.1 (P.1 + 4) (by omega) (by omega) (by omega)
  unfold smBus
  refine ⟨nmI_V nm rfl rfl rfl rfl, ?_, fun z => vKt_9 (vKt_9 (vk z) w1.1 w1.2) w2.1 w2.2⟩
  rw [e4]
  exact loF_V (loF_mn lo (by omega)) rfl rfl

def sxSchool (K S : Int → Int) (V : jM) (P : Int × Int × Int) : Int × Int × Int := stq K S 24 (stq K S 23 (stq K S 22 (stq K S 11 (stq K S 22 (stq K S 2 (rmF S (V 0 2) 3 P))))))
def smSc1 (W S : Int → Int) (a : Int) (V : jM) : Int × jM := plN W S (a + 3) (tlN W S (a + 1) (-1) V)
def smSchool (W S : Int → Int) (a : Int) (V : jM) : jM := adS (wrF S (1440 ≤ W (a + 4)) (a + 4) (smSc1 W S a V).2) (smSc1 W S a V).1 (W (a + 4))
def sxStop (K S : Int → Int) (V : jM) (P : Int × Int × Int) : Int × Int × Int := stq K S 24 (stq K S 22 (stq K S 11 (stq K S 22 (stq K S 3 (rmF S (V 0 3) 6 P)))))
def smStop (W S : Int → Int) (a : Int) (V : jM) : jM := adT (smSc1 W S a V).2 (smSc1 W S a V).1
theorem smSc1_V {W S : Int → Int} {a : Int} {V : jM} : (∀ j, j ≠ 10 → j ≠ 11 → j ≠ 12 → (smSc1 W S a V).2 0 j = V 0 j) ∧ (smSc1 W S a V).2 0 10 ≤ V 0 10 + 1 := by
  refine ⟨fun j h0 h1 h2 => (plN_V.1 j h1 h2).trans (tlN_V.1 j h0 h1 h2), ?_⟩
  have e : (smSc1 W S a V).2 0 10 = tlN W S (a + 1) (-1) V 0 10 := plN_V.1 10 (by decide) (by decide)
  rw [e]
  exact tlN_V.2.2.2
theorem c_readSchool {K S W : Int → Int} {V m : jM} {Q : Int → jM → Prop} {P : Int × Int × Int} {t n : Int} (ht : jTx t) (hV : tV K W n) (hn : P.1 ≤ n) (hT : cTk K S W m) (hP : cPs P m) (hS : cMn V t m) (o : smOk V) (hQ : ∀ m', rdU t m m' → cTk K S W m' → cPs (sxSchool K S V P) m' → cMn (if (sxSchool K S V P).2.1 = 0 then smSchool W S P.1 V else V) t m' → Q 0 m') : ML iX4_readSchool [(2, 1), (2, t)] m Q := by
  have tr := jTx_rng ht
  have p0 := hP.1
  refine sX4_readSchool ht ?_
  rw [hS.1.1.2.1.2.2.1]
  refine k_room ht hT hP hS rdU_rf (fun m1 f1 T1 P1 S1 => k_take ht T1 P1 S1 f1 (fun m2 f2 T2 P2 S2 => k_take ht T2 P2 S2 f2 (fun m3 f3 T3 P3 S3 => k_take ht T3 P3 S3 f3 (fun m4 f4 T4 P4 S4 => k_take ht T4 P4 S4 f4 (fun m5 f5 T5 P5 S5 => k_take ht T5 P5 S5 f5 (fun m6 f6 T6 P6 S6 => k_take ht T6 P6 S6 f6 (fun m7 f7 T7 P7 S7 => ⟨fun z => ?_, fun z => ?_⟩)))))))
  · have hz : (sxSchool K S V P).2.1 = 0 := P7.2.2.1.symm.trans z
    rw [if_pos hz] at hQ
    have s6 := stq_ok hz
    have s5 := stq_ok s6.1
    have s4 := stq_ok s5.1
    have s3 := stq_ok s4.1
    have s2 := stq_ok s3.1
    have s1 := stq_ok s2.1
    have s0 := rmF_ok s1.1
    have q1 : (stq K S 2 (rmF S (V 0 2) 3 P)).1 = P.1 + 1 := by rw [s1.2.2.2, s0.2.2]
    have q2 : (stq K S 22 (stq K S 2 (rmF S (V 0 2) 3 P))).1 = P.1 + 2 := by rw [s2.2.2.2]; show (stq K S 2 (rmF S (V 0 2) 3 P)).1 + 1 = _; omega
    have q3 : (stq K S 11 (stq K S 22 (stq K S 2 (rmF S (V 0 2) 3 P)))).1 = P.1 + 3 := by rw [s3.2.2.2]; show (stq K S 22 (stq K S 2 (rmF S (V 0 2) 3 P))).1 + 1 = _; omega
    have q4 : (stq K S 22 (stq K S 11 (stq K S 22 (stq K S 2 (rmF S (V 0 2) 3 P))))).1 = P.1 + 4 := by rw [s4.2.2.2]; show (stq K S 11 (stq K S 22 (stq K S 2 (rmF S (V 0 2) 3 P)))).1 + 1 = _; omega
    have k4 := s5.2.1
    have lt := s5.2.2.1
    rw [q4] at k4 lt
    have n4 : (stq K S 22 (stq K S 11 (stq K S 22 (stq K S 2 (rmF S (V 0 2) 3 P))))).1 ≤ n := stq_n hV (stq_n hV (stq_n hV (stq_n hV (by rw [rmF_1]; exact hn) (by decide)) (by decide)) (by decide)) (by decide)
    rw [q4] at n4
    have w4 := hV.2.2 (P.1 + 4) (by omega) (by omega) k4
    have o2 := o.2.2.2.2.1
    rw [P2.2.1, q1, jw_id (x := P.1 + 1 + 2) (by omega) (by omega), show P.1 + 1 + 2 = P.1 + 3 by omega, jw_id (x := P.1 + 1 + 3) (by omega) (by omega), show P.1 + 1 + 3 = P.1 + 4 by omega]
    refine k_name ht T7 P7 S7 f7 o (by omega) (by omega) (Or.inr (Or.inl s0.2.1)) (fun m8 f8 T8 P8 S8 => k_place ht T8 P8 S8 f8 (by omega) (by omega) (fun m9 f9 T9 P9 S9 => c_intAt T9 (by omega) (by omega) w4 ?_))
    have add : ∀ m13, rdU t m m13 → cTk K S W m13 → cPs (sxSchool K S V P) m13 → cMn (wrF S (1440 ≤ W (P.1 + 4)) (P.1 + 4) (smSc1 W S P.1 V).2) t m13 → ML iX8_addSchool [(2, t), (0, (plN W S (P.1 + 3) (tlN W S (P.1 + 1) (-1) V)).1), (0, W (P.1 + 4))] m13 (fun _ m19 => Q 0 m19) := by
      intro m13 f13 T13 P13 S13
      have e2 : wrF S (1440 ≤ W (P.1 + 4)) (P.1 + 4) (smSc1 W S P.1 V).2 0 2 = V 0 2 := (wrF_V.1 2 (by decide) (by decide)).trans (smSc1_V.1 2 (by decide) (by decide) (by decide))
      have b2 := S13.1.2
      refine c_addSchool S13.1.1 (by omega) (by omega) (fun m14 f14 v14 => ?_)
      have x := tx_fr ht T13 P13 S13.2 f14 (by simp) (by simp)
      refine hQ m14 (rdU_tr f13 (rdU_of ht f14 (by simp) (by simp))) x.1 x.2.1 ⟨⟨v14, ?_⟩, cNm_S x.2.2⟩
      intro i i0 i1
      rw [f14 t 7 (by simp; omega) (by simp)]
      exact b2 i i0 i1
    refine ⟨fun y => k_wrong ht T9 P9 S9 f9 (by omega) (by omega) ?_ add, fun y => k_wrong ht T9 P9 S9 f9 (by omega) (by omega) ?_ add⟩
    · exact ⟨fun w => absurd rfl w, fun w => by omega⟩
    · exact ⟨fun w => by omega, fun w => by decide⟩
  · have hz : (sxSchool K S V P).2.1 ≠ 0 := fun w => z (P7.2.2.1.trans w)
    rw [if_neg hz] at hQ
    exact hQ m7 f7 T7 P7 S7
theorem c_readStop {K S W : Int → Int} {V m : jM} {Q : Int → jM → Prop} {P : Int × Int × Int} {t : Int} (ht : jTx t) (hT : cTk K S W m) (hP : cPs P m) (hS : cMn V t m) (o : smOk V) (hQ : ∀ m', rdU t m m' → cTk K S W m' → cPs (sxStop K S V P) m' → cMn (if (sxStop K S V P).2.1 = 0 then smStop W S P.1 V else V) t m' → Q 0 m') : ML iX4_readStop [(2, 1), (2, t)] m Q := by
  have tr := jTx_rng ht
  have p0 := hP.1
  refine sX4_readStop ht ?_
  rw [hS.1.1.2.1.2.2.2.1]
  refine k_room ht hT hP hS rdU_rf (fun m1 f1 T1 P1 S1 => k_take ht T1 P1 S1 f1 (fun m2 f2 T2 P2 S2 => k_take ht T2 P2 S2 f2 (fun m3 f3 T3 P3 S3 => k_take ht T3 P3 S3 f3 (fun m4 f4 T4 P4 S4 => k_take ht T4 P4 S4 f4 (fun m5 f5 T5 P5 S5 => k_take ht T5 P5 S5 f5 (fun m7 f7 T7 P7 S7 => ⟨fun z => ?_, fun z => ?_⟩))))))
  · have hz : (sxStop K S V P).2.1 ≠ 0 := fun w => z (P7.2.2.1.trans w)
    rw [if_neg hz] at hQ
    exact hQ m7 f7 T7 P7 S7
  · have hz : (sxStop K S V P).2.1 = 0 := P7.2.2.1.symm.trans (Classical.byContradiction z)
    rw [if_pos hz] at hQ
    have s5 := stq_ok hz
    have s4 := stq_ok s5.1
    have s3 := stq_ok s4.1
    have s2 := stq_ok s3.1
    have s1 := stq_ok s2.1
    have s0 := rmF_ok s1.1
    have q1 : (stq K S 3 (rmF S (V 0 3) 6 P)).1 = P.1 + 1 := by rw [s1.2.2.2, s0.2.2]
    have q2 : (stq K S 22 (stq K S 3 (rmF S (V 0 3) 6 P))).1 = P.1 + 2 := by rw [s2.2.2.2]; show (stq K S 3 (rmF S (V 0 3) 6 P)).1 + 1 = _; omega
    have q3 : (stq K S 11 (stq K S 22 (stq K S 3 (rmF S (V 0 3) 6 P)))).1 = P.1 + 3 := by rw [s3.2.2.2]; show (stq K S 22 (stq K S 3 (rmF S (V 0 3) 6 P))).1 + 1 = _; omega
    have lt := s4.2.2.1
    rw [q3] at lt
    have o3 := o.2.2.2.2.2.2.1
    rw [P2.2.1, q1, jw_id (x := P.1 + 1 + 2) (by omega) (by omega), show P.1 + 1 + 2 = P.1 + 3 by omega]
    refine k_name ht T7 P7 S7 f7 o (by omega) (by omega) (Or.inr (Or.inr s0.2.1)) (fun m8 f8 T8 P8 S8 => k_place ht T8 P8 S8 f8 (by omega) (by omega) (fun m9 f9 T9 P9 S9 => ?_))
    have e3 : (plN W S (P.1 + 3) (tlN W S (P.1 + 1) (-1) V)).2 0 3 = V 0 3 := smSc1_V.1 3 (by decide) (by decide) (by decide)
    have b2 := S9.1.2
    refine c_addStop S9.1.1 (by omega) (by omega) (fun m14 f14 v14 => ?_)
    have x := tx_fr ht T9 P9 S9.2 f14 (by simp) (by simp)
    refine hQ m14 (rdU_tr f9 (rdU_of ht f14 (by simp) (by simp))) x.1 x.2.1 ⟨⟨v14, ?_⟩, cNm_T x.2.2⟩
    intro i i0 i1
    rw [f14 t 7 (by simp; omega) (by simp)]
    exact b2 i i0 i1
def sxRule (K S : Int → Int) (b : Int) (P : Int × Int × Int) : Int × Int × Int := stq K S 24 (stq K S 23 (stq K S b P))
def smRule (W S : Int → Int) (b a : Int) (V : jM) : jM := jup (wrF S (W (a + 1) = 0 ∧ (b = 5 ∨ b = 6)) (a + 1) V) 9 (b - 5) (W (a + 1))
theorem cNm_9 {V m : jM} {j x : Int} (h : cNm V m) : cNm (jup V 9 j x) m := by
  unfold cNm at *
  exact h
theorem c_readRule {K S W : Int → Int} {V m : jM} {Q : Int → jM → Prop} {P : Int × Int × Int} {t n b : Int} (ht : jTx t) (hV : tV K W n) (hn : P.1 ≤ n) (hT : cTk K S W m) (hP : cPs P m) (hS : cMn V t m) (b0 : 5 ≤ b) (b1 : b ≤ 9) (hQ : ∀ m', rdU t m m' → cTk K S W m' → cPs (sxRule K S b P) m' → cMn (if (sxRule K S b P).2.1 = 0 then smRule W S b P.1 V else V) t m' → Q 0 m') : ML iX4_readRule [(2, 1), (2, t), (0, b)] m Q := by
  have tr := jTx_rng ht
  have p0 := hP.1
  refine sX4_readRule ht (k_take ht hT hP hS rdU_rf (fun m2 f2 T2 P2 S2 => k_take ht T2 P2 S2 f2 (fun m3 f3 T3 P3 S3 => k_take ht T3 P3 S3 f3 (fun m4 f4 T4 P4 S4 => ⟨fun z => ?_, fun z => ?_⟩))))
  · have hz : (sxRule K S b P).2.1 = 0 := P4.2.2.1.symm.trans z
    rw [if_pos hz] at hQ
    have s3 := stq_ok hz
    have s2 := stq_ok s3.1
    have s1 := stq_ok s2.1
    have q1 : (stq K S b P).1 = P.1 + 1 := by rw [s1.2.2.2]
    have k1 := s2.2.1
    have lt := s2.2.2.1
    rw [q1] at k1 lt
    have n1 : (stq K S b P).1 ≤ n := stq_n hV hn (by omega)
    rw [q1] at n1
    have w1 := hV.2.2 (P.1 + 1) (by omega) n1 k1
    rw [P2.2.1, q1, jw_id (x := b - 5) (by omega) (by omega)]
    have put : ∀ m5, rdU t m m5 → cTk K S W m5 → cPs (sxRule K S b P) m5 → cMn (wrF S (W (P.1 + 1) = 0 ∧ (b = 5 ∨ b = 6)) (P.1 + 1) V) t m5 → ML iX4_intAt [(2, 1), (0, P.1 + 1)] m5 (fun r30 m31 => (0 ≤ b - 5 ∧ b - 5 < 7 ∧ Q 0 (jup m31 (t + 10) (b - 5) r30))) := by
      intro m5 f5 T5 P5 S5
      refine c_intAt T5 (by omega) (by omega) w1 ⟨by omega, by omega, ?_⟩
      have f6 : frx [t + 10] [] m5 (jup m5 (t + 10) (b - 5) (W (P.1 + 1))) := frx_upA frx_rf (by simp)
      have x := tx_fr ht T5 P5 S5.2 f6 (by simp) (by simp)
      exact hQ _ (rdU_tr f5 (rdU_of ht f6 (by simp) (by simp))) x.1 x.2.1 ⟨vb_rule S5.1, cNm_9 x.2.2⟩
    refine c_intAt T4 (by omega) (by omega) w1 ⟨fun y => k_wrong ht T4 P4 S4 f4 (by omega) (by omega) ?_ put, fun y => ⟨fun y2 => k_wrong ht T4 P4 S4 f4 (by omega) (by omega) ?_ put, fun y2 => ⟨fun y3 => k_wrong ht T4 P4 S4 f4 (by omega) (by omega) ?_ put, fun y3 => k_wrong ht T4 P4 S4 f4 (by omega) (by omega) ?_ put⟩⟩⟩
    · exact ⟨fun w => absurd rfl w, fun w => absurd w.1 y⟩
    · exact ⟨fun _ => ⟨Classical.byContradiction y, Or.inl y2⟩, fun _ => by decide⟩
    · exact ⟨fun w => absurd rfl w, fun w => by omega⟩
    · exact ⟨fun _ => ⟨Classical.byContradiction y, Or.inr (Classical.byContradiction y3)⟩, fun _ => by decide⟩
  · have hz : (sxRule K S b P).2.1 ≠ 0 := fun w => z (P4.2.2.1.trans w)
    rw [if_neg hz] at hQ
    exact hQ m4 f4 T4 P4 S4
def sxBus (K S : Int → Int) (P : Int × Int × Int) : Int × Int × Int := stq K S 24 (stq K S 23 (stq K S 23 (stq K S 10 P)))
def smBus (W : Int → Int) (a : Int) (V : jM) : jM := jup (jup V 9 5 (W (a + 1))) 9 6 (W (a + 2))
theorem c_readBus {K S W : Int → Int} {V m : jM} {Q : Int → jM → Prop} {P : Int × Int × Int} {t n : Int} (ht : jTx t) (hV : tV K W n) (hn : P.1 ≤ n) (hT : cTk K S W m) (hP : cPs P m) (hS : cMn V t m) (hQ : ∀ m', rdU t m m' → cTk K S W m' → cPs (sxBus K S P) m' → cMn (if (sxBus K S P).2.1 = 0 then smBus W P.1 V else V) t m' → Q 0 m') : ML iX4_readBus [(2, 1), (2, t)] m Q := by
  have tr := jTx_rng ht
  have p0 := hP.1
  refine sX4_readBus ht (k_take ht hT hP hS rdU_rf (fun m2 f2 T2 P2 S2 => k_take ht T2 P2 S2 f2 (fun m3 f3 T3 P3 S3 => k_take ht T3 P3 S3 f3 (fun m4 f4 T4 P4 S4 => k_take ht T4 P4 S4 f4 (fun m5 f5 T5 P5 S5 => ⟨fun z => ?_, fun z => ?_⟩)))))
  · have hz : (sxBus K S P).2.1 ≠ 0 := fun w => z (P5.2.2.1.trans w)
    rw [if_neg hz] at hQ
    exact hQ m5 f5 T5 P5 S5
  · have hz : (sxBus K S P).2.1 = 0 := P5.2.2.1.symm.trans (Classical.byContradiction z)
    rw [if_pos hz] at hQ
    have s4 := stq_ok hz
    have s3 := stq_ok s4.1
    have s2 := stq_ok s3.1
    have s1 := stq_ok s2.1
    have q1 : (stq K S 10 P).1 = P.1 + 1 := by rw [s1.2.2.2]
    have q2 : (stq K S 23 (stq K S 10 P)).1 = P.1 + 2 := by rw [s2.2.2.2]; show (stq K S 10 P).1 + 1 = _; omega
    have k1 := s2.2.1
    have k2 := s3.2.1
    have lt := s3.2.2.1
    rw [q1] at k1
    rw [q2] at k2 lt
    have n2 : (stq K S 23 (stq K S 10 P)).1 ≤ n := stq_n hV (stq_n hV hn (by decide)) (by decide)
    rw [q2] at n2
    have w1 := hV.2.2 (P.1 + 1) (by omega) (by omega) k1
    have w2 := hV.2.2 (P.1 + 2) (by omega) (by omega) k2
    rw [P2.2.1, q1, jw_id (x := P.1 + 1 + 1) (by omega) (by omega), show P.1 + 1 + 1 = P.1 + 2 by omega]
    refine c_intAt T5 (by omega) (by omega) w1 ?_
    have f6 : frx [t + 10] [] m5 (jup m5 (t + 10) 5 (W (P.1 + 1))) := frx_upA frx_rf (by simp)
    have x := tx_fr ht T5 P5 S5.2 f6 (by simp) (by simp)
    refine c_intAt x.1 (by omega) (by omega) w2 ?_
    have f7 : frx [t + 10] [] m5 (jup (jup m5 (t + 10) 5 (W (P.1 + 1))) (t + 10) 6 (W (P.1 + 2))) := frx_upA f6 (by simp)
    have x7 := tx_fr ht T5 P5 S5.2 f7 (by simp) (by simp)
    exact hQ _ (rdU_tr f5 (rdU_of ht f7 (by simp) (by simp))) x7.1 x7.2.1 ⟨vb_rule (vb_rule S5.1), cNm_9 (cNm_9 x7.2.2)⟩

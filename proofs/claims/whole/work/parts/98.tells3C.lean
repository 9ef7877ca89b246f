def syWay (K S : Int → Int) (V : jM) (P : Int × Int × Int) : Int × Int × Int := stq K S 23 (stq K S 23 (stq K S 22 (stq K S 22 (stq K S 1 (rmF S (V 0 1) 24 P)))))
def sxWay (K S : Int → Int) (V : jM) (P : Int × Int × Int) : Int × Int × Int := stq K S 24 (if K (syWay K S V P).1 = 12 then stq K S 12 (syWay K S V P) else syWay K S V P)
def smWay3 (W S : Int → Int) (a : Int) (V : jM) : jM := wrF S ((plN W S (a + 1) V).1 ≠ -1 ∧ (plN W S (a + 1) V).1 = (plN W S (a + 2) (plN W S (a + 1) V).2).1) (a + 2) (plN W S (a + 2) (plN W S (a + 1) V).2).2
def smWay5 (W S : Int → Int) (a : Int) (V : jM) : jM := wrF S (W (a + 4) = 0 ∨ 99 < W (a + 4)) (a + 4) (wrF S (W (a + 3) = 0) (a + 3) (smWay3 W S a V))
def smWay (K W S : Int → Int) (a : Int) (V : jM) : jM := adW (smWay5 W S a V) (plN W S (a + 1) V).1 (plN W S (a + 2) (plN W S (a + 1) V).2).1 (W (a + 3)) (W (a + 4)) (if K (a + 5) = 12 then 1 else 0)
theorem smWay5_0 {W S : Int → Int} {a : Int} {V : jM} : ∀ j, j ≠ 11 → j ≠ 12 → smWay5 W S a V 0 j = V 0 j := by
  intro j h1 h2
  unfold smWay5 smWay3
  rw [wrF_V.1 j h1 h2, wrF_V.1 j h1 h2, wrF_V.1 j h1 h2, plN_V.1 j h1 h2, plN_V.1 j h1 h2]
theorem cNm_W {V m : jM} {a b c d e : Int} (h : cNm V m) : cNm (adW V a b c d e) m := by
  unfold cNm at *
  exact h
theorem cNm_S {V m : jM} {a b : Int} (h : cNm V m) : cNm (adS V a b) m := by
  unfold cNm at *
  exact h
theorem cNm_T {V m : jM} {a : Int} (h : cNm V m) : cNm (adT V a) m := by
  unfold cNm at *
  exact h
/-- a text's rows written, all else stays -/
theorem tx_fr {K S W : Int → Int} {V m m' : jM} {P : Int × Int × Int} {t : Int} {R : List Int} {F : List (Int × Int)} (ht : jTx t) (hT : cTk K S W m) (hP : cPs P m) (hN : cNm V m) (hf : frx R F m m') (hr : ∀ p ∈ R, t + 1 ≤ p) (hF : ∀ q ∈ F, q.1 = t) : cTk K S W m' ∧ cPs P m' ∧ cNm V m' := by
  have tr := jTx_rng ht
  have row : ∀ q, q < t → m' q = m q := fun q hq => frx_row hf q (fun w => by have := hr q w; omega) (fun z hz => by rw [hF z hz]; omega)
  refine ⟨cTk_fr hT (fun q hq => row q (by simp only [List.mem_cons, List.not_mem_nil, or_false] at hq; omega)), cPs_fr hP (by rw [row 1 (by omega)]) (by rw [row 1 (by omega)]) (by rw [row 1 (by omega)]), cNm_fr hN (by rw [row 1 (by omega)]) (by rw [row 1 (by omega)]) (by rw [row 1 (by omega)]) (row 8 (by omega)) (row 9 (by omega))⟩
theorem c_readWay {K S W : Int → Int} {V m : jM} {Q : Int → jM → Prop} {P : Int × Int × Int} {t n : Int} (ht : jTx t) (hV : tV K W n) (hn : P.1 ≤ n) (hT : cTk K S W m) (hP : cPs P m) (hS : cMn V t m) (o : smOk V) (hQ : ∀ m', rdU t m m' → cTk K S W m' → cPs (sxWay K S V P) m' → cMn (if (sxWay K S V P).2.1 = 0 then smWay K W S P.1 V else V) t m' → Q 0 m') : ML iX4_readWay [(2, 1), (2, t)] m Q := by
  have tr := jTx_rng ht
  have p0 := hP.1
  refine sX4_readWay ht ?_
  rw [hS.1.1.2.1.2.1]
  refine k_room ht hT hP hS rdU_rf (fun m1 f1 T1 P1 S1 => k_take ht T1 P1 S1 f1 (fun m2 f2 T2 P2 S2 => k_take ht T2 P2 S2 f2 (fun m3 f3 T3 P3 S3 => k_take ht T3 P3 S3 f3 (fun m4 f4 T4 P4 S4 => k_take ht T4 P4 S4 f4 (fun m5 f5 T5 P5 S5 => k_take ht T5 P5 S5 f5 (fun m6 f6 T6 P6 S6 => ?_))))))
  have P6' : cPs (syWay K S V P) m6 := P6
  have n6 : (syWay K S V P).1 ≤ n := stq_n hV (stq_n hV (stq_n hV (stq_n hV (stq_n hV (by rw [rmF_1]; exact hn) (by decide)) (by decide)) (by decide)) (by decide)) (by decide)
  refine sX4_kindAhead ⟨by have := P6'.1; have := P6'.2.1; omega, by have := P6'.1; have := P6'.2.1; omega, ?_⟩
  rw [T6.1, P6'.2.1, P2.2.1]
  have e2 : (stq K S 1 (rmF S (V 0 1) 24 P)).1 = P.1 + 1 ∨ (syWay K S V P).2.1 ≠ 0 := by
    by_cases z : (syWay K S V P).2.1 = 0
    · have s5 := stq_ok z
      have s4 := stq_ok s5.1
      have s3 := stq_ok s4.1
      have s2 := stq_ok s3.1
      have s1 := stq_ok s2.1
      have s0 := rmF_ok s1.1
      left
      rw [s1.2.2.2, s0.2.2]
    · exact Or.inr z
  -- from the semicolon on
  have tail : ∀ (e : Int) (Pb : Int × Int × Int) (m7 : jM), rdU t m m7 → cTk K S W m7 → cPs Pb m7 → cMn V t m7 → stq K S 24 Pb = sxWay K S V P → (Pb.2.1 = 0 → (syWay K S V P).2.1 = 0) → (e = if K (syWay K S V P).1 = 12 then 1 else 0) → GL iX4_readWay m7 69 [(2, 1), (2, t), (0, (stq K S 1 (rmF S (V 0 1) 24 P)).1), (0, e), (9, 0), (9, 0), (9, 0), (9, 0)] [] Q := by
    intro e Pb m7 f7 T7 P7 S7 hx hpb he
    refine sX4_readWay_69 ht (k_take ht T7 P7 S7 f7 (fun m8 f8 T8 P8 S8 => ?_))
    rw [hx] at P8
    refine ⟨fun z => ?_, fun z => ?_⟩
    · have hz : (sxWay K S V P).2.1 = 0 := P8.2.2.1.symm.trans z
      rw [if_pos hz] at hQ
      have s6 : Pb.2.1 = 0 := by rw [← hx] at hz; exact (stq_ok hz).1
      have z6 := hpb s6
      have s5 := stq_ok z6
      have s4 := stq_ok s5.1
      have s3 := stq_ok s4.1
      have s2 := stq_ok s3.1
      have s1 := stq_ok s2.1
      have s0 := rmF_ok s1.1
      have q1 : (stq K S 1 (rmF S (V 0 1) 24 P)).1 = P.1 + 1 := by rw [s1.2.2.2, s0.2.2]
      have q2 : (stq K S 22 (stq K S 1 (rmF S (V 0 1) 24 P))).1 = P.1 + 2 := by rw [s2.2.2.2]; show (stq K S 1 (rmF S (V 0 1) 24 P)).1 + 1 = _; omega
      have q3 : (stq K S 22 (stq K S 22 (stq K S 1 (rmF S (V 0 1) 24 P)))).1 = P.1 + 3 := by rw [s3.2.2.2]; show (stq K S 22 (stq K S 1 (rmF S (V 0 1) 24 P))).1 + 1 = _; omega
      have q4 : (stq K S 23 (stq K S 22 (stq K S 22 (stq K S 1 (rmF S (V 0 1) 24 P))))).1 = P.1 + 4 := by rw [s4.2.2.2]; show (stq K S 22 (stq K S 22 (stq K S 1 (rmF S (V 0 1) 24 P)))).1 + 1 = _; omega
      have q5 : (syWay K S V P).1 = P.1 + 5 := by unfold syWay; rw [s5.2.2.2]; show (stq K S 23 (stq K S 22 (stq K S 22 (stq K S 1 (rmF S (V 0 1) 24 P))))).1 + 1 = _; omega
      have k3 := s4.2.1
      have k4 := s5.2.1
      have lt := s5.2.2.1
      rw [q3] at k3
      rw [q4] at k4 lt
      have w3 := hV.2.2 (P.1 + 3) (by omega) (by omega) k3
      have w4 := hV.2.2 (P.1 + 4) (by omega) (by omega) k4
      rw [q1]
      rw [jw_id (x := P.1 + 1 + 1) (by omega) (by omega), show P.1 + 1 + 1 = P.1 + 2 by omega, jw_id (x := P.1 + 1 + 2) (by omega) (by omega), show P.1 + 1 + 2 = P.1 + 3 by omega]
      refine k_place ht T8 P8 S8 f8 (by omega) (by omega) (fun m9 f9 T9 P9 S9 => k_place ht T9 P9 S9 f9 (by omega) (by omega) (fun m10 f10 T10 P10 S10 => ?_))
      -- behind the names
      have tail3 : ∀ b m11, rdU t m m11 → cTk K S W m11 → cPs (sxWay K S V P) m11 → cMn (smWay3 W S P.1 V) t m11 → (b ≠ 0 ↔ W (P.1 + 3) = 0) → GL iX4_readWay m11 144 [(2, 1), (2, t), (0, P.1 + 1), (0, e), (0, (plN W S (P.1 + 1) V).1), (0, (plN W S (P.1 + 2) (plN W S (P.1 + 1) V).2).1), (0, W (P.1 + 3)), (9, 0)] [(0, b), (2, 1)] Q := by
        intro b m11 f11 T11 P11 S11 hb
        refine sX4_readWay_144 ht ?_
        rw [jw_id (x := P.1 + 1 + 2) (by omega) (by omega), show P.1 + 1 + 2 = P.1 + 3 by omega, jw_id (x := P.1 + 1 + 3) (by omega) (by omega), show P.1 + 1 + 3 = P.1 + 4 by omega]
        refine k_wrong ht T11 P11 S11 f11 (by omega) (by omega) hb (fun m12 f12 T12 P12 S12 => c_intAt T12 (by omega) (by omega) w4 ?_)
        have add : ∀ m13, rdU t m m13 → cTk K S W m13 → cPs (sxWay K S V P) m13 → cMn (smWay5 W S P.1 V) t m13 → ML iX8_addWay [(2, t), (0, (plN W S (P.1 + 1) V).1), (0, (plN W S (P.1 + 2) (plN W S (P.1 + 1) V).2).1), (0, W (P.1 + 3)), (0, W (P.1 + 4)), (0, e)] m13 (fun _ m19 => Q 0 m19) := by
          intro m13 f13 T13 P13 S13
          have e1 : smWay5 W S P.1 V 0 1 = V 0 1 := smWay5_0 1 (by decide) (by decide)
          have o1 := o.2.2.1
          refine c_addWay S13.1.1 S13.1.2 (by omega) (by omega) (by rw [he]; split <;> simp) (fun m14 f14 v14 b14 => ?_)
          have x := tx_fr ht T13 P13 S13.2 f14 (by simp) (by simp)
          rw [he, q5] at v14 b14
          exact hQ m14 (rdU_tr f13 (rdU_of ht f14 (by simp) (by simp))) x.1 x.2.1 ⟨⟨v14, b14⟩, cNm_W x.2.2⟩
        refine ⟨fun y => k_wrong ht T12 P12 S12 f12 (by omega) (by omega) (by simp [y]) add, fun y => ⟨fun y2 => k_wrong ht T12 P12 S12 f12 (by omega) (by omega) ?_ add, fun y2 => k_wrong ht T12 P12 S12 f12 (by omega) (by omega) ?_ add⟩⟩
        · constructor
          · intro w; exact absurd rfl w
          · intro w; omega
        · constructor
          · intro w; omega
          · intro w; decide
      have both : ∀ m11, rdU t m m11 → cTk K S W m11 → cPs (sxWay K S V P) m11 → cMn (smWay3 W S P.1 V) t m11 → ML iX4_intAt [(2, 1), (0, P.1 + 3)] m11 (fun r25 m26 => ((r25 ≠ 0 → GL iX4_readWay m26 144 [(2, 1), (2, t), (0, P.1 + 1), (0, e), (0, (plN W S (P.1 + 1) V).1), (0, (plN W S (P.1 + 2) (plN W S (P.1 + 1) V).2).1), (0, r25), (9, 0)] [(0, 0), (2, 1)] Q) ∧ (¬ (r25 ≠ 0) → GL iX4_readWay m26 144 [(2, 1), (2, t), (0, P.1 + 1), (0, e), (0, (plN W S (P.1 + 1) V).1), (0, (plN W S (P.1 + 2) (plN W S (P.1 + 1) V).2).1), (0, r25), (9, 0)] [(0, 1), (2, 1)] Q))) := by
        intro m11 f11 T11 P11 S11
        refine c_intAt T11 (by omega) (by omega) w3 ⟨fun y => tail3 0 m11 f11 T11 P11 S11 ⟨fun w => absurd rfl w, fun w => absurd w y⟩, fun y => tail3 1 m11 f11 T11 P11 S11 ⟨fun _ => Classical.byContradiction y, fun _ => by decide⟩⟩
      refine ⟨fun y => k_wrong ht T10 P10 S10 f10 (by omega) (by omega) ?_ both, fun y => ⟨fun y2 => k_wrong ht T10 P10 S10 f10 (by omega) (by omega) ?_ both, fun y2 => k_wrong ht T10 P10 S10 f10 (by omega) (by omega) ?_ both⟩⟩
      · exact ⟨fun w => absurd rfl w, fun w => absurd y w.1⟩
      · exact ⟨fun w => absurd rfl w, fun w => absurd w.2 y2⟩
      · exact ⟨fun _ => ⟨y, Classical.byContradiction y2⟩, fun _ => by decide⟩
    · have hz : (sxWay K S V P).2.1 ≠ 0 := fun w => z (P8.2.2.1.trans w)
      rw [if_neg hz] at hQ
      exact hQ m8 f8 T8 P8 S8
  refine ⟨fun z => tail 0 _ m6 f6 T6 P6' S6 (by unfold sxWay; rw [if_neg z]) id (by rw [if_neg z]), fun z => ?_⟩
  have z := Classical.byContradiction z
  refine k_take ht T6 P6' S6 f6 (fun m7 f7 T7 P7 S7 => tail 1 _ m7 f7 T7 P7 S7 (by unfold sxWay; rw [if_pos z]) (fun w => (stq_ok w).1) (by rw [if_pos z]))

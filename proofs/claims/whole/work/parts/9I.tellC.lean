/-! one TELL in the class -/
noncomputable def teF (K S Wv : Int → Int) (P : Int × Int × Int) (V : jM) : (Int × Int × Int) × jM :=
  if K P.1 = 0 then (sxPlace K S V P, if (sxPlace K S V P).2.1 = 0 then smPlace Wv S P.1 V else V)
  else if K P.1 = 1 then (sxWay K S V P, if (sxWay K S V P).2.1 = 0 then smWay K Wv S P.1 V else V)
  else if K P.1 = 2 then (sxSchool K S V P, if (sxSchool K S V P).2.1 = 0 then smSchool Wv S P.1 V else V)
  else if K P.1 = 3 then (sxStop K S V P, if (sxStop K S V P).2.1 = 0 then smStop Wv S P.1 V else V)
  else if K P.1 = 4 then ((xfR K S Wv V P).1, smRight K S Wv V P)
  else if 5 ≤ K P.1 ∧ K P.1 ≤ 9 then (sxRule K S (K P.1) P, if (sxRule K S (K P.1) P).2.1 = 0 then smRule Wv S (K P.1) P.1 V else V)
  else if K P.1 = 10 then (sxBus K S P, if (sxBus K S P).2.1 = 0 then smBus Wv P.1 V else V)
  else (flF S 1 P, V)
/-- code and rights are left alone -/
def cdK (V V' : jM) : Prop := V' 0 16 = V 0 16 ∧ V' 0 4 = V 0 4 ∧ V' 32 = V 32 ∧ V' 33 = V 33
theorem cdK_rf {V : jM} : cdK V V := ⟨rfl, rfl, rfl, rfl⟩
theorem cCd_U {V V' m m' : jM} {t : Int} (ht : jTx t) (h : cCd V t m) (hf : rdU t m m') (hv : cdK V V') : cCd V' t m' := by
  have tr := jTx_rng ht
  unfold cCd at *
  rw [hv.1, hv.2.1, hv.2.2.1, hv.2.2.2, hf t 16 (by omega), rdU_row hf (q := t + 9) (by omega), rdU_row hf (q := t + 8) (by omega)]
  exact h
theorem cdK_place {W S : Int → Int} {a : Int} {V : jM} : cdK V (smPlace W S a V) := by
  unfold smPlace
  refine ⟨?_, ?_, ?_, ?_⟩
  · rw [jup_j (by decide)]; exact tlN_V.1 16 (by decide) (by decide) (by decide)
  · rw [jup_j (by decide)]; exact tlN_V.1 4 (by decide) (by decide) (by decide)
  · rw [jup_ne (by decide)]; exact tlN_V.2.1 32 (by decide) (by decide) (by decide)
  · rw [jup_ne (by decide)]; exact tlN_V.2.1 33 (by decide) (by decide) (by decide)
theorem smWay5_p {W S : Int → Int} {a : Int} {V : jM} : ∀ p, p ≠ 0 → smWay5 W S a V p = V p := by
  intro p hp
  unfold smWay5 smWay3
  rw [wrF_V.2 p hp, wrF_V.2 p hp, wrF_V.2 p hp, plN_V.2 p hp, plN_V.2 p hp]
theorem cdK_way {K W S : Int → Int} {a : Int} {V : jM} : cdK V (smWay K W S a V) := by
  unfold smWay adW
  refine ⟨?_, ?_, ?_, ?_⟩
  · rw [jup_j (by decide), jup_ne (by decide), jup_ne (by decide), jup_ne (by decide), jup_ne (by decide), jup_ne (by decide)]; exact smWay5_0 16 (by decide) (by decide)
  · rw [jup_j (by decide), jup_ne (by decide), jup_ne (by decide), jup_ne (by decide), jup_ne (by decide), jup_ne (by decide)]; exact smWay5_0 4 (by decide) (by decide)
  · rw [jup_ne (by decide), jup_ne (by decide), jup_ne (by decide), jup_ne (by decide), jup_ne (by decide), jup_ne (by decide)]; exact smWay5_p 32 (by decide)
  · rw [jup_ne (by decide), jup_ne (by decide), jup_ne (by decide), jup_ne (by decide), jup_ne (by decide), jup_ne (by decide)]; exact smWay5_p 33 (by decide)
theorem smSc1_p {W S : Int → Int} {a : Int} {V : jM} : ∀ p, p ≠ 0 → p ≠ 30 → p ≠ 31 → (smSc1 W S a V).2 p = V p := fun p h0 h1 h2 => (plN_V.2 p h0).trans (tlN_V.2.1 p h0 h1 h2)
theorem cdK_school {W S : Int → Int} {a : Int} {V : jM} : cdK V (smSchool W S a V) := by
  unfold smSchool adS
  refine ⟨?_, ?_, ?_, ?_⟩
  · rw [jup_j (by decide), jup_ne (by decide), jup_ne (by decide), wrF_V.1 16 (by decide) (by decide)]; exact smSc1_V.1 16 (by decide) (by decide) (by decide)
  · rw [jup_j (by decide), jup_ne (by decide), jup_ne (by decide), wrF_V.1 4 (by decide) (by decide)]; exact smSc1_V.1 4 (by decide) (by decide) (by decide)
  · rw [jup_ne (by decide), jup_ne (by decide), jup_ne (by decide), wrF_V.2 32 (by decide)]; exact smSc1_p 32 (by decide) (by decide) (by decide)
  · rw [jup_ne (by decide), jup_ne (by decide), jup_ne (by decide), wrF_V.2 33 (by decide)]; exact smSc1_p 33 (by decide) (by decide) (by decide)
theorem cdK_stop {W S : Int → Int} {a : Int} {V : jM} : cdK V (smStop W S a V) := by
  unfold smStop adT
  refine ⟨?_, ?_, ?_, ?_⟩
  · rw [jup_j (by decide), jup_ne (by decide)]; exact smSc1_V.1 16 (by decide) (by decide) (by decide)
  · rw [jup_j (by decide), jup_ne (by decide)]; exact smSc1_V.1 4 (by decide) (by decide) (by decide)
  · rw [jup_ne (by decide), jup_ne (by decide)]; exact smSc1_p 32 (by decide) (by decide) (by decide)
  · rw [jup_ne (by decide), jup_ne (by decide)]; exact smSc1_p 33 (by decide) (by decide) (by decide)
theorem cdK_rule {W S : Int → Int} {b a : Int} {V : jM} : cdK V (smRule W S b a V) := by
  unfold smRule
  exact ⟨by rw [jup_ne (by decide)]; exact wrF_V.1 16 (by decide) (by decide), by rw [jup_ne (by decide)]; exact wrF_V.1 4 (by decide) (by decide), by rw [jup_ne (by decide)]; exact wrF_V.2 32 (by decide), by rw [jup_ne (by decide)]; exact wrF_V.2 33 (by decide)⟩
theorem cdK_bus {W : Int → Int} {a : Int} {V : jM} : cdK V (smBus W a V) := ⟨rfl, rfl, rfl, rfl⟩
theorem c_readTell {t n : Int} {K S Wv : Int → Int} {V m : jM} {P : Int × Int × Int} {Q : Int → jM → Prop} (ht : jTx t) (hV : tV K Wv n) (hn : P.1 ≤ n) (hT : cTk K S Wv m) (hP : cPs P m) (hS : cMn V t m) (hC : cCd V t m) (o : smOk V) (hc : V 0 16 ≤ P.1) (hQ : ∀ m', rdA t m m' → cPs (teF K S Wv P V).1 m' → ((teF K S Wv P V).1.2.1 = 0 → cTk K S Wv m' ∧ cMn (teF K S Wv P V).2 t m' ∧ cCd (teF K S Wv P V).2 t m') → Q 0 m') : ML iX4_readTell [(2, 1), (2, t)] m Q := by
  have tr := jTx_rng ht
  have p0 := hP.1
  have kd : m 4 (m 1 3) = K P.1 := by rw [hP.2.1, hT.1]
  have b0 : 0 ≤ m 1 3 := by rw [hP.2.1]; exact p0.1
  have b1 : m 1 3 < 401 := by rw [hP.2.1]; omega
  have put : ∀ {P' : Int × Int × Int} {V' : jM}, teF K S Wv P V = (P', if P'.2.1 = 0 then V' else V) → cdK V V' → ∀ m', rdU t m m' → cTk K S Wv m' → cPs P' m' → cMn (if P'.2.1 = 0 then V' else V) t m' → Q 0 m' := by
    intro P' V' e k m' f' T' P1 S'
    rw [e] at hQ
    refine hQ m' (rdA_U f') P1 (fun _ => ⟨T', S', cCd_U ht hC f' ?_⟩)
    show cdK V (if P'.2.1 = 0 then V' else V)
    by_cases c : P'.2.1 = 0
    · rw [if_pos c]; exact k
    · rw [if_neg c]; exact cdK_rf
  have rule : 5 ≤ K P.1 → K P.1 ≤ 9 → ML iX4_kindAhead [(2, 1)] m (fun r43 m44 => ML iX4_readRule [(2, 1), (2, t), (0, r43)] m44 (fun _ m49 => Q 0 m49)) := by
    intro h5 h9
    refine sX4_kindAhead ⟨b0, b1, ?_⟩
    rw [kd]
    refine c_readRule ht hV hn hT hP hS h5 h9 (put ?_ cdK_rule)
    unfold teF
    rw [if_neg (by omega), if_neg (by omega), if_neg (by omega), if_neg (by omega), if_neg (by omega), if_pos ⟨h5, h9⟩]
  refine sX4_readTell ht (sX4_kindAhead ⟨b0, b1, ?_⟩)
  rw [kd]
  refine ⟨fun e => c_readPlace ht hT hP hS o (put ?_ cdK_place), fun e => c_readWay ht hV hn hT hP hS o (put ?_ cdK_way), fun e => c_readSchool ht hV hn hT hP hS o (put ?_ cdK_school), fun e => c_readStop ht hT hP hS o (put ?_ cdK_stop), fun e => ?_, fun e => rule (by omega) (by omega), fun e => rule (by omega) (by omega), fun e => rule (by omega) (by omega), fun e => rule (by omega) (by omega), fun e => rule (by omega) (by omega), fun e => c_readBus ht hV hn hT hP hS (put ?_ cdK_bus), fun e => ?_⟩
  · unfold teF; rw [if_pos e]
  · unfold teF; rw [if_neg (by omega), if_pos e]
  · unfold teF; rw [if_neg (by omega), if_neg (by omega), if_pos e]
  · unfold teF; rw [if_neg (by omega), if_neg (by omega), if_neg (by omega), if_pos e]
  · have et : teF K S Wv P V = ((xfR K S Wv V P).1, smRight K S Wv V P) := by
      unfold teF; rw [if_neg (by omega), if_neg (by omega), if_neg (by omega), if_neg (by omega), if_pos e]
    rw [et] at hQ
    exact c_readRight ht hV hn hT hP hS hC o hc hQ
  · unfold teF; rw [if_neg (by omega), if_neg (by omega), if_neg (by omega), if_neg (by omega), if_neg (by omega), if_neg (by omega), if_pos e]
  · have et : teF K S Wv P V = (flF S 1 P, V) := by
      unfold teF; rw [if_neg (by omega), if_neg (by omega), if_neg (by omega), if_neg (by omega), if_neg (by omega), if_neg (by omega), if_neg (by omega)]
    rw [et] at hQ
    exact c_failC hT hP (by decide) (fun m1 f1 P1 => hQ m1 (rdA_U (rdU_ps ht f1)) P1 (fun w => absurd w (flF_ne (by decide))))

theorem flF_ne {S : Int → Int} {n : Int} {P : Int × Int × Int} (hn : n ≠ 0) : (flF S n P).2.1 ≠ 0 := by
  unfold flF
  split
  · assumption
  · exact hn
theorem c_readOperand {t n : Int} {K S Wv : Int → Int} {W : List Int} {V m : jM} {P : Int × Int × Int} {Q : Int → jM → Prop} (ht : jTx t) (hV : tV K Wv n) (hn : P.1 ≤ n) (hR : cRr t K S Wv W V m) (hP : cPs P m) (hb : V 0 16 + (W.length : Int) + 2 ≤ P.1) (hd : 0 ≤ V 0 23 ∧ V 0 23 ≤ 6) (hQ : ∀ m', rdR t m m' → cPs (opd K S Wv (P, W, V)).1 m' → ((opd K S Wv (P, W, V)).1.2.1 = 0 → cRr t K S Wv (opd K S Wv (P, W, V)).2.1 (opd K S Wv (P, W, V)).2.2 m') → Q 0 m') : ML iX4_readOperand [(2, 1), (2, t)] m Q := by
  have tr := jTx_rng ht
  have p0 := hP.1
  have c0 := hR.2.2.1.2.1
  have fl := hR.2.2.2.2
  have kd : m 4 (m 1 3) = K P.1 := by rw [hP.2.1, hR.1.1]
  have flagsEnd : ∀ {P' : Int × Int × Int} {W' : List Int} {V' m1 : jM}, rdR t m m1 → cPs P' m1 → cRr t K S Wv W' V' m1 → (rdR t m (jup (jup m1 1 12 0) 1 11 0) ∧ cPs P' (jup (jup m1 1 12 0) 1 11 0) ∧ cRr t K S Wv W' (jup (jup V' 0 21 0) 0 20 0) (jup (jup m1 1 12 0) 1 11 0)) := by
    intro P' W' V' m1 r1 P1 R1
    have f1 := R1.2.2.2.2
    have x := cRr_fl (V' := jup (jup V' 0 21 0) 0 20 0) (m' := jup (jup m1 1 12 0) 1 11 0) ht R1 (fun q hq => by rw [jup_ne hq, jup_ne hq]) (fun i hi => by rw [jup_self, if_neg (by omega), jup_self, if_neg (by omega)]) (fun p hp => by rw [jup_ne hp, jup_ne hp]) (fun j hj => by rw [jup_self, if_neg (by omega), jup_self, if_neg (by omega)]) (by
      unfold cFl at f1 ⊢
      refine ⟨by rw [jup_s, jup_s], by simp [jup], ?_, ?_⟩
      · simp [jup]; exact f1.2.2.1
      · simp [jup]; exact f1.2.2.2)
    exact ⟨rdR_tr r1 x.2, cPs_1 P1 (fun i hi => by rw [jup_self, if_neg (by omega), jup_self, if_neg (by omega)]), x.1⟩
  -- from the kind on
  have rest : ¬ (K P.1 = 16 ∧ V 0 21 ≠ 0) → GL iX4_readOperand m 29 [(2, 1), (2, t), (0, K P.1)] [] Q := by
    intro hn16
    unfold opd at hQ
    simp only at hQ
    rw [if_neg hn16] at hQ
    have bad : K P.1 ≠ 32 → K P.1 ≠ 23 → ¬ (17 ≤ K P.1 ∧ K P.1 ≤ 21) → ML iX4_fail [(2, 1), (0, 1)] m (fun _ m8 => ML iX4_take [(2, 1), (0, K P.1)] m8 (fun _ m13 => Q 0 (jup (jup m13 1 12 0) 1 11 0))) := by
      intro h1 h2 h3
      rw [if_neg h1, if_neg h2, if_neg h3] at hQ
      refine c_failC hR.1 hP (by decide) (fun m1 f1 P1 => ?_)
      have R1 := cRr_ps ht hR f1
      refine c_take (k := K P.1) R1.1.1 P1 (fun m2 f2 P2 => ?_)
      have R2 := cRr_ps ht R1.1 f2
      have x := flagsEnd (rdR_tr R1.2 R2.2) P2 R2.1
      rw [stq_f (flF_ne (by decide))] at x
      exact hQ _ x.1 x.2.1 (fun w => absurd w (flF_ne (by decide)))
    refine sX4_readOperand_29 ht ⟨fun h32 => ⟨fun h23 => ⟨fun h17 => bad h32 h23 (by omega), fun h17 => ⟨fun h21 => bad h32 h23 (by omega), fun h21 => ?_⟩⟩, fun h23 => ?_⟩, fun h32 => ?_⟩
    · rw [if_neg h32, if_neg h23, if_pos ⟨by omega, by omega⟩] at hQ
      rw [jnot (by omega)]
      refine k_code ht hR (by omega) (fun m1 r1 e1 R1 => c_take (k := K P.1) R1.1 (cPs_1 hP (fun i _ => e1 i)) (fun m2 f2 P2 => ?_))
      have R2 := cRr_ps ht R1 f2
      have x := flagsEnd (rdR_tr r1 R2.2) P2 R2.1
      exact hQ _ x.1 x.2.1 (fun _ => x.2.2)
    · have e23 := Classical.byContradiction h23
      rw [if_neg h32, if_pos e23] at hQ
      have wv := hV.2.2 P.1 p0.1 hn e23
      rw [hP.2.1, e23]
      refine c_intAt hR.1 p0.1 p0.2 wv (k_code ht hR (by omega) (fun m1 r1 e1 R1 => c_take (k := 23) R1.1 (cPs_1 hP (fun i _ => e1 i)) (fun m2 f2 P2 => ?_)))
      have R2 := cRr_ps ht R1 f2
      have x := flagsEnd (rdR_tr r1 R2.2) P2 R2.1
      exact hQ _ x.1 x.2.1 (fun _ => x.2.2)
    · have e32 := Classical.byContradiction h32
      rw [if_pos e32] at hQ
      rw [e32, fl.2.2.2]
      refine c_room hR.1 hP (fun m1 f1 P1 => ?_)
      have R1 := cRr_ps ht hR f1
      refine c_take (k := 32) R1.1.1 P1 (fun m2 f2 P2 => ?_)
      have R2 := cRr_ps ht R1.1 f2
      refine k_await ht R2.1 (by omega) (by decide) (by decide) (fun m3 r3 e3 R3 => ?_)
      have f3 := R3.2.2.2.2
      have e14 : m3 1 14 = V 0 23 := f3.2.2.2
      rw [e14, jw_id (x := V 0 23 + 1) (by omega) (by omega)]
      have x := cRr_fl (V' := jup (jup V 0 23 (V 0 23 + 1)) 0 21 0) (m' := jup (jup m3 1 14 (V 0 23 + 1)) 1 12 0) ht R3 (fun q hq => by rw [jup_ne hq, jup_ne hq]) (fun i hi => by rw [jup_self, if_neg (by omega), jup_self, if_neg (by omega)]) (fun p hp => by rw [jup_ne hp, jup_ne hp]) (fun j hj => by rw [jup_self, if_neg (by omega), jup_self, if_neg (by omega)]) (by
        unfold cFl at f3 ⊢
        refine ⟨by simp [jup]; exact f3.1, by simp [jup], by simp [jup]; exact f3.2.2.1, by simp [jup]⟩)
      exact hQ _ (rdR_tr (rdR_tr R1.2 R2.2) (rdR_tr r3 x.2)) (cPs_1 P2 (fun i hi => by rw [jup_self, if_neg (by omega), jup_self, if_neg (by omega)]; exact e3 i (by omega))) (fun _ => x.1)
  refine sX4_readOperand ht (sX4_kindAhead ⟨by rw [hP.2.1]; exact p0.1, by rw [hP.2.1]; omega, ?_⟩)
  rw [kd]
  refine ⟨fun z => rest (fun w => z w.1), fun z => ⟨fun z2 => rest (fun w => w.2 (fl.2.1.symm.trans z2)), fun z2 => ?_⟩⟩
  have e16 := Classical.byContradiction z
  have ng : V 0 21 ≠ 0 := fun w => z2 (fl.2.1.trans w)
  unfold opd at hQ
  simp only at hQ
  rw [if_pos ⟨e16, ng⟩] at hQ
  rw [e16]
  refine c_take (k := 16) hR.1 hP (fun m1 f1 P1 => ?_)
  have R1 := cRr_ps ht hR f1
  exact k_await ht R1.1 (by omega) (by decide) (by decide) (fun m2 r2 e2 R2 => hQ m2 (rdR_tr R1.2 r2) (cPs_1 P1 (fun i hi => e2 i (by omega))) (fun _ => R2))

theorem c_cmp {m : jM} {Q : Int → jM → Prop} {a : Int} (hQ : ∀ r, (28 ≤ a ∧ a ≤ 31 → r = 1) → (¬ (28 ≤ a ∧ a ≤ 31) → r = 0) → Q r m) : ML iX4_isComparison [(0, a)] m Q :=
  sX4_isComparison ⟨fun z => hQ 0 (fun w => by omega) (fun _ => rfl), fun z => ⟨fun z2 => hQ 0 (fun w => by omega) (fun _ => rfl), fun z2 => hQ 1 (fun _ => rfl) (fun w => by omega)⟩⟩
theorem c_mayFollow {V m : jM} {Q : Int → jM → Prop} {a : Int} (hf : cFl V m) (hQ : ∀ r, (mayF V a → r = 1) → (¬ mayF V a → r = 0) → Q r m) : ML iX4_mayFollowOperand [(2, 1), (0, a)] m Q := by
  obtain ⟨f1, f2, f3, f4⟩ := hf
  unfold mayF at hQ
  refine sX4_mayFollowOperand ?_
  rw [f3, f4]
  refine ⟨fun z => hQ 1 (fun _ => rfl) (fun w => absurd (by omega) w), fun z => ⟨fun z2 => hQ 1 (fun _ => rfl) (fun w => absurd (by omega) w), fun z2 => ⟨fun z3 => ⟨fun z4 => ⟨fun z5 => ⟨fun z6 => hQ 1 (fun _ => rfl) (fun w => absurd (by omega) w), fun z6 => ⟨fun z7 => hQ 1 (fun _ => rfl) (fun w => absurd (by omega) w), fun z7 => ⟨fun z8 => hQ 0 (fun w => by omega) (fun _ => rfl), fun z8 => hQ 1 (fun _ => rfl) (fun w => absurd (by omega) w)⟩⟩⟩, fun z5 => c_cmp (fun r r1 r0 => ⟨?_, hQ r (fun w => r1 (by omega)) (fun w => r0 (fun y => w (by omega)))⟩)⟩, fun z4 => hQ 0 (fun w => by omega) (fun _ => rfl)⟩, fun z3 => hQ 1 (fun _ => rfl) (fun w => absurd (by omega) w)⟩⟩⟩
  by_cases c : 28 ≤ a ∧ a ≤ 31
  · exact Or.inr (r1 c)
  · exact Or.inl (r0 c)
theorem c_readOperator {t : Int} {K S Wv : Int → Int} {W : List Int} {V m : jM} {P : Int × Int × Int} {Q : Int → jM → Prop} (ht : jTx t) (hR : cRr t K S Wv W V m) (hP : cPs P m) (hb : V 0 16 + (W.length : Int) + 2 ≤ P.1) (hd : V 0 23 ≤ 6) (hW : wI W (V 0 23)) (hQ : ∀ r m', rdR t m m' → cPs (opr K S (P, W, V)).1 m' → ((opr K S (P, W, V)).1.2.1 = 0 → cRr t K S Wv (opr K S (P, W, V)).2.1 (opr K S (P, W, V)).2.2 m' ∧ (r ≠ 0 ↔ K P.1 ≠ 24)) → Q r m') : ML iX4_readOperator [(2, 1), (2, t)] m Q := by
  have tr := jTx_rng ht
  have p0 := hP.1
  have c0 := hR.2.2.1.2.1
  have fl := hR.2.2.2.2
  have kd : m 4 (m 1 3) = K P.1 := by rw [hP.2.1, hR.1.1]
  have rest : ¬ (K P.1 = 33 ∧ 0 < V 0 23) → GL iX4_readOperator m 51 [(2, 1), (2, t), (0, K P.1)] [] Q := by
    intro hn33
    unfold opr at hQ
    simp only at hQ
    rw [if_neg hn33] at hQ
    refine sX4_readOperator_51 ht (c_mayFollow fl (fun r r1 r0 => ⟨fun z => ?_, fun z => ?_⟩))
    · have my : mayF V (K P.1) := Classical.byContradiction (fun w => z (r0 w))
      rw [if_pos my] at hQ
      have kb : 14 ≤ K P.1 ∧ K P.1 ≤ 31 := by unfold mayF at my; omega
      refine c_take (k := K P.1) hR.1 hP (fun m1 f1 P1 => c_strengthOf ?_)
      have R1 := cRr_ps ht hR f1
      have sc := stl_cd (s := stg (K P.1)) (W := W) (V := V)
      refine k_settle ht R1.1 (by omega) (fun m2 r2 e2 R2 => ⟨fun z24 => ?_, fun z24 => ?_⟩)
      · rw [if_neg z24] at hQ
        have lt : ((stl (stg (K P.1)) W V).1.length : Int) < 400 := by omega
        refine k_await ht R2 lt (by omega) (by omega) (fun m3 r3 e3 R3 => ?_)
        have f3 := R3.2.2.2.2
        have rr := rdR_tr R1.2 (rdR_tr r2 r3)
        have P3 : cPs (stq K S (K P.1) P) m3 := cPs_1 P1 (fun i hi => (e3 i (by omega)).trans (e2 i (by omega)))
        unfold opF at hQ
        have lit : (K P.1 = 15 ∨ K P.1 = 14) → ML iX4_beginLiteral [(2, 1)] (jup m3 1 11 1) (fun _ m33 => Q 1 m33) := by
          intro h
          rw [if_pos h] at hQ
          refine sX4_beginLiteral ?_
          have x := cRr_fl (V' := jup (jup (jup (stl (stg (K P.1)) W V).2 0 20 1) 0 21 1) 0 22 1) (m' := jup (jup (jup (jup m3 1 11 1) 1 11 1) 1 12 1) 1 13 1) ht R3 (fun q hq => by rw [jup_ne hq, jup_ne hq, jup_ne hq, jup_ne hq]) (fun i hi => by rw [jup_self, if_neg (by omega), jup_self, if_neg (by omega), jup_self, if_neg (by omega), jup_self, if_neg (by omega)]) (fun p hp => by rw [jup_ne hp, jup_ne hp, jup_ne hp]) (fun j hj => by rw [jup_self, if_neg (by omega), jup_self, if_neg (by omega), jup_self, if_neg (by omega)]) (by
            unfold cFl at f3 ⊢
            refine ⟨by simp [jup], by simp [jup], by simp [jup], by simp [jup]; exact f3.2.2.2⟩)
          exact hQ 1 _ (rdR_tr rr x.2) (cPs_1 P3 (fun i hi => by rw [jup_self, if_neg (by omega), jup_self, if_neg (by omega), jup_self, if_neg (by omega), jup_self, if_neg (by omega)])) (fun _ => ⟨x.1, ⟨fun _ => z24, fun _ => by decide⟩⟩)
        refine ⟨fun h15 => lit (Or.inl h15), fun h15 => ⟨fun h14 => c_cmp (fun r r1 r0 => ⟨fun y => ?_, fun y => ?_⟩), fun h14 => lit (Or.inr (Classical.byContradiction h14))⟩⟩
        · have nc : ¬ (28 ≤ K P.1 ∧ K P.1 ≤ 31) := fun w => by have := r1 w; omega
          rw [if_neg (by omega), if_neg nc] at hQ
          have x := cRr_fl (V' := jup (stl (stg (K P.1)) W V).2 0 20 1) (m' := jup m3 1 11 1) ht R3 (fun q hq => by rw [jup_ne hq]) (fun i hi => by rw [jup_self, if_neg (by omega)]) (fun p hp => by rw [jup_ne hp]) (fun j hj => by rw [jup_self, if_neg (by omega)]) (by
            unfold cFl at f3 ⊢
            refine ⟨by simp [jup], by simp [jup]; exact f3.2.1, by simp [jup]; exact f3.2.2.1, by simp [jup]; exact f3.2.2.2⟩)
          exact hQ 1 _ (rdR_tr rr x.2) (cPs_1 P3 (fun i hi => by rw [jup_self, if_neg (by omega)])) (fun _ => ⟨x.1, ⟨fun _ => z24, fun _ => by decide⟩⟩)
        · have nc : 28 ≤ K P.1 ∧ K P.1 ≤ 31 := Classical.byContradiction (fun w => y (r0 w))
          rw [if_neg (by omega), if_pos nc] at hQ
          have x := cRr_fl (V' := jup (jup (stl (stg (K P.1)) W V).2 0 20 1) 0 22 0) (m' := jup (jup m3 1 11 1) 1 13 0) ht R3 (fun q hq => by rw [jup_ne hq, jup_ne hq]) (fun i hi => by rw [jup_self, if_neg (by omega), jup_self, if_neg (by omega)]) (fun p hp => by rw [jup_ne hp, jup_ne hp]) (fun j hj => by rw [jup_self, if_neg (by omega), jup_self, if_neg (by omega)]) (by
            unfold cFl at f3 ⊢
            refine ⟨by simp [jup], by simp [jup]; exact f3.2.1, by simp [jup], by simp [jup]; exact f3.2.2.2⟩)
          exact hQ 1 _ (rdR_tr rr x.2) (cPs_1 P3 (fun i hi => by rw [jup_self, if_neg (by omega), jup_self, if_neg (by omega)])) (fun _ => ⟨x.1, ⟨fun _ => z24, fun _ => by decide⟩⟩)
      · have e24 := Classical.byContradiction z24
        rw [if_pos e24] at hQ
        rw [e24] at P1 R2
        have s1 : stg 24 = 1 := rfl
        rw [s1] at R2
        exact hQ 0 m2 (rdR_tr R1.2 r2) (cPs_1 P1 (fun i hi => e2 i (by omega))) (fun _ => ⟨R2, ⟨fun w => absurd rfl w, fun w => absurd e24 w⟩⟩)
    · have my : ¬ mayF V (K P.1) := fun w => z (by rw [r1 w]; decide)
      rw [if_neg my] at hQ
      exact c_failC hR.1 hP (by decide) (fun m1 f1 P1 => hQ 0 m1 (cRr_ps ht hR f1).2 P1 (fun w => absurd w (flF_ne (by decide))))
  refine sX4_readOperator ht (sX4_kindAhead ⟨by rw [hP.2.1]; exact p0.1, by rw [hP.2.1]; omega, ?_⟩)
  rw [kd, fl.2.2.2]
  refine ⟨fun z => rest (fun w => z w.1), fun z => ⟨fun z2 => rest (fun w => by omega), fun z2 => ?_⟩⟩
  have e33 := Classical.byContradiction z
  unfold opr at hQ
  simp only at hQ
  rw [if_pos ⟨e33, by omega⟩] at hQ
  simp only at hQ
  rw [e33]
  refine c_take (k := 33) hR.1 hP (fun m1 f1 P1 => ?_)
  have R1 := cRr_ps ht hR f1
  have sw := stl_wI (s := 1) (by decide) (V := V) hW
  obtain ⟨r, er, -⟩ := wI_open sw.1 (by omega) sw.2.1
  have sc := stl_cd (s := 1) (W := W) (V := V)
  refine k_settle ht R1.1 (by omega) (fun m2 r2 e2 R2 => ?_)
  have f2 := R2.2.2.2.2
  have w2 := R2.2.2.2.1
  have e10 : m2 1 10 = (r.length : Int) + 1 := by rw [w2.1, er]; simp
  have e14 : m2 1 14 = V 0 23 := f2.2.2.2.trans (sc.2.2.1 23 (by decide))
  have lr : (r.length : Int) < 400 := by have := sc.1; rw [er] at this; simp only [List.length_cons] at this; omega
  rw [e10, e14, jw_id (x := (r.length : Int) + 1 - 1) (by omega) (by omega), jw_id (x := V 0 23 - 1) (by omega) (by omega), show (r.length : Int) + 1 - 1 = (r.length : Int) by omega]
  have rA : rdR t m2 (jup (jup m2 1 10 (r.length : Int)) 1 14 (V 0 23 - 1)) := by
    intro q i hq
    by_cases e : q = 1
    · subst e
      rw [jup_self, if_neg (by omega), jup_self, if_neg (by omega)]
    · rw [jup_ne e, jup_ne e]
  refine hQ 1 _ (rdR_tr R1.2 (rdR_tr r2 rA)) (cPs_1 P1 (fun i hi => by rw [jup_self, if_neg (by omega), jup_self, if_neg (by omega)]; exact e2 i (by omega))) (fun _ => ⟨⟨cTk_rR ht R2.1 rA, cMn_V2 (cMn_rR ht R2.2.1 rA) (fun j hj => by rw [jup_self, if_neg (by omega)]) (fun p p0 _ => by rw [jup_ne p0]), ?_, ?_, ?_⟩, ⟨fun _ => by omega, fun _ => by decide⟩⟩)
  · have c2 := R2.2.2.1
    unfold cCd at c2 ⊢
    rw [jup_ne (show t ≠ 1 by omega), jup_ne (show t ≠ 1 by omega), jup_ne (show t + 9 ≠ 1 by omega), jup_ne (show t + 9 ≠ 1 by omega), jup_ne (show t + 8 ≠ 1 by omega), jup_ne (show t + 8 ≠ 1 by omega)]
    exact c2
  · rw [er] at w2 ⊢
    refine ⟨by simp [jup], ?_, fun k hk => w2.2.2 k (by simp [show k ∈ r from hk])⟩
    rw [jup_ne (by decide), jup_ne (by decide)]
    exact w2.2.1.2
  · unfold cFl at f2 ⊢
    refine ⟨by simp [jup]; exact f2.1, by simp [jup]; exact f2.2.1, by simp [jup]; exact f2.2.2.1, by simp [jup]⟩

/-- all that any TELL writes -/
def rdA (t : Int) (m m' : jM) : Prop := ∀ q i, (q ≠ 1 ∧ q ≠ 8 ∧ q ≠ 9 ∧ q ≠ 10 ∧ (q < t ∨ t + 10 < q)) ∨ (q = t ∧ i = 0) → m' q i = m q i
theorem rdA_tr {t : Int} {m m1 m2 : jM} (h : rdA t m m1) (h2 : rdA t m1 m2) : rdA t m m2 := fun q i hq => (h2 q i hq).trans (h q i hq)
theorem rdA_R {t : Int} {m m' : jM} (h : rdR t m m') : rdA t m m' := fun q i hq => h q i (by omega)
theorem rdA_U {t : Int} {m m' : jM} (h : rdU t m m') : rdA t m m' := fun q i hq => h q i (by omega)
theorem c_readRight {t n : Int} {K S Wv : Int → Int} {V m : jM} {P : Int × Int × Int} {Q : Int → jM → Prop} (ht : jTx t) (hV : tV K Wv n) (hn : P.1 ≤ n) (hT : cTk K S Wv m) (hP : cPs P m) (hS : cMn V t m) (hC : cCd V t m) (o : smOk V) (hc : V 0 16 ≤ P.1) (hQ : ∀ m', rdA t m m' → cPs (xfR K S Wv V P).1 m' → ((xfR K S Wv V P).1.2.1 = 0 → cTk K S Wv m' ∧ cMn (smRight K S Wv V P) t m' ∧ cCd (smRight K S Wv V P) t m') → Q 0 m') : ML iX4_readRight [(2, 1), (2, t)] m Q := by
  have tr := jTx_rng ht
  have p0 := hP.1
  have c0 := hC.2.1
  refine sX4_readRight ht ?_
  rw [hS.1.1.2.1.2.2.2.2]
  refine c_room hT hP (fun m1 f1 P1 => c_take (cTk_ps hT f1) P1 (fun m2 f2 P2 => c_take (cTk_ps (cTk_ps hT f1) f2) P2 (fun m3 f3 P3 => sX4_beginLiteral ?_)))
  have f13 := frx_tr f1 (frx_tr f2 f3)
  have r13 : rdR t m m3 := rdR_of ht f13 (by simp) (by simp)
  generalize hm4 : jup (jup (jup (jup (jup m3 1 10 0) 1 14 0) 1 11 1) 1 12 1) 1 13 1 = m4
  have q4 : ∀ q, q ≠ 1 → m4 q = m3 q := fun q hq => by rw [← hm4, jup_ne hq, jup_ne hq, jup_ne hq, jup_ne hq, jup_ne hq]
  have i4 : ∀ i, i < 10 → m4 1 i = m3 1 i := fun i hi => by rw [← hm4, jup_j (by omega), jup_j (by omega), jup_j (by omega), jup_j (by omega), jup_j (by omega)]
  have r4 : rdR t m m4 := rdR_tr r13 (fun q i hq => by
    by_cases e : q = 1
    · subst e
      rw [← hm4, jup_j (by omega), jup_j (by omega), jup_j (by omega), jup_j (by omega), jup_j (by omega)]
    · rw [q4 q e])
  have P4 : cPs (x0R K S V P).1 m4 := cPs_1 P3 i4
  have V0 : ∀ j, j < 20 → (x0R K S V P).2.2 0 j = V 0 j := fun j hj => by unfold x0R; simp only; rw [jup_j (by omega), jup_j (by omega), jup_j (by omega), jup_j (by omega)]
  have Vp : ∀ p, p ≠ 0 → (x0R K S V P).2.2 p = V p := fun p hp => by unfold x0R; simp only; rw [jup_ne hp, jup_ne hp, jup_ne hp, jup_ne hp]
  have R4 : cRr t K S Wv [] (x0R K S V P).2.2 m4 := by
    refine ⟨cTk_rR ht hT r4, cMn_V2 (cMn_rR ht hS r4) (fun j hj => V0 j (by omega)) (fun p p0 _ => Vp p p0), ?_, ⟨?_, trivial, fun k hk => by cases hk⟩, ?_⟩
    · unfold cCd at hC ⊢
      rw [V0 16 (by decide), V0 4 (by decide), Vp 32 (by decide), Vp 33 (by decide), q4 t (by omega), q4 (t + 9) (by omega), q4 (t + 8) (by omega), frx_row f13 (t + 9) (by simp) (by simp; omega), frx_row f13 (t + 8) (by simp) (by simp; omega), frx_row f13 t (by simp) (by simp; omega)]
      exact hC
    · rw [← hm4]; simp [jup]
    · rw [← hm4]
      unfold cFl x0R
      simp [jup]
  -- the end
  have fin : ∀ m5, rdR t m m5 → cPs (xfR K S Wv V P).1 m5 → ((xfR K S Wv V P).1.2.1 = 0 → cRr t K S Wv (xfR K S Wv V P).2.1 (xfR K S Wv V P).2.2 m5 ∧ V 0 4 < 8) → ML iX8_endRight [(2, t)] m5 (fun _ m4 => Q 0 m4) := by
    intro m5 r5 P5 R5
    have e13 : m5 t 13 = V 0 4 := (r5 t 13 (by omega)).trans hS.1.1.2.1.2.2.2.2
    have o4 := o.2.2.2.2.2.2.2.2.1
    refine sX8_endRight ht ?_
    rw [e13, jw_id (x := V 0 4 + 1) (by have := o.2.2.2.2.2.2.2.2.2.1; omega) (by have := o.2.2.2.2.2.2.2.2.2.1; omega)]
    refine ⟨fun z => hQ m5 (rdA_R r5) P5 (fun w => absurd z (by have := (R5 w).2; omega)), fun z => ⟨o4, by omega, ?_⟩⟩
    generalize hm6 : jup (jup m5 (t + 8) (V 0 4) (m5 t 16)) t 13 (V 0 4 + 1) = m6
    have q6 : ∀ q, q ≠ t → q ≠ t + 8 → m6 q = m5 q := fun q h1 h2 => by rw [← hm6, jup_ne h1, jup_ne h2]
    have i6 : ∀ i, i ≠ 13 → m6 t i = m5 t i := fun i hi => by rw [← hm6, jup_j hi, jup_ne (by omega)]
    have i13 : m6 t 13 = V 0 4 + 1 := by rw [← hm6, jup_s]
    have e8 : ∀ j, m6 (t + 8) j = if j = V 0 4 then m5 t 16 else m5 (t + 8) j := fun j => by rw [← hm6, jup_ne (by omega), jup_self]
    have rA : rdA t m m6 := rdA_tr (rdA_R r5) (fun q i hq => by
      by_cases e : q = t
      · subst e; exact i6 i (by omega)
      · rw [q6 q e (by omega)])
    refine hQ m6 rA (cPs_fr P5 (by rw [q6 1 (by omega) (by omega)]) (by rw [q6 1 (by omega) (by omega)]) (by rw [q6 1 (by omega) (by omega)])) (fun w => ?_)
    obtain ⟨⟨g1, g2, g3, g4, g5⟩, -⟩ := R5 w
    have V4 : (xfR K S Wv V P).2.2 0 4 = V 0 4 := (xlp_4 4 (by decide)).trans (V0 4 (by decide))
    have s0 : ∀ j, j ≠ 4 → smRight K S Wv V P 0 j = (xfR K S Wv V P).2.2 0 j := fun j hj => by unfold smRight; rw [jup_j hj, jup_ne (by decide)]
    have s4 : smRight K S Wv V P 0 4 = V 0 4 + 1 := jup_s
    have sp : ∀ p, p ≠ 0 → p ≠ 33 → smRight K S Wv V P p = (xfR K S Wv V P).2.2 p := fun p h0 h1 => by unfold smRight; rw [jup_ne h0, jup_ne h1]
    refine ⟨cTk_fr g1 (fun q hq => q6 q (by simp only [List.mem_cons, List.not_mem_nil, or_false] at hq; omega) (by simp only [List.mem_cons, List.not_mem_nil, or_false] at hq; omega)), ⟨⟨?_, ?_⟩, ?_⟩, ?_⟩
    · obtain ⟨ht', ⟨a0, a1, a2, a3, a4⟩, hW, hB, hSc, hT', hR⟩ := g2.1.1
      refine ⟨ht, ⟨?_, ?_, ?_, ?_, ?_⟩, ?_, ?_, ?_, ?_, ?_⟩
      · rw [i6 1 (by decide), s0 0 (by decide)]; exact a0
      · rw [i6 2 (by decide), s0 1 (by decide)]; exact a1
      · rw [i6 8 (by decide), s0 2 (by decide)]; exact a2
      · rw [i6 11 (by decide), s0 3 (by decide)]; exact a3
      · rw [i13, s4]
      · rw [s0 1 (by decide), q6 (t + 1) (by omega) (by omega), q6 (t + 2) (by omega) (by omega), q6 (t + 3) (by omega) (by omega), q6 (t + 4) (by omega) (by omega), i6 7 (by decide), sp 1 (by decide) (by decide), sp 2 (by decide) (by decide), sp 3 (by decide) (by decide), sp 4 (by decide) (by decide), sp 5 (by decide) (by decide)]; exact hW
      · rw [i6 7 (by decide)]; exact hB
      · rw [s0 2 (by decide), q6 (t + 5) (by omega) (by omega), q6 (t + 6) (by omega) (by omega), sp 6 (by decide) (by decide), sp 7 (by decide) (by decide)]; exact hSc
      · rw [s0 3 (by decide), q6 (t + 7) (by omega) (by omega), sp 8 (by decide) (by decide)]; exact hT'
      · rw [q6 (t + 10) (by omega) (by omega), sp 9 (by decide) (by decide)]; exact hR
    · unfold bwI
      rw [s0 1 (by decide), i6 7 (by decide)]
      exact g2.1.2
    · have nn := g2.2
      unfold cNm at nn ⊢
      rw [s0 10 (by decide), s0 11 (by decide), s0 12 (by decide), sp 30 (by decide) (by decide), sp 31 (by decide) (by decide), q6 1 (by omega) (by omega), q6 8 (by omega) (by omega), q6 9 (by omega) (by omega)]
      exact nn
    · obtain ⟨b1, b2, b3, b4⟩ := g3
      refine ⟨by rw [i6 16 (by decide), s0 16 (by decide)]; exact b1, by rw [s0 16 (by decide)]; exact b2, ?_, fun r r0 r1 => ?_⟩
      · rw [s0 16 (by decide), q6 (t + 9) (by omega) (by omega), sp 32 (by decide) (by decide)]; exact b3
      · rw [s4] at r1
        rw [e8]
        have e33 : smRight K S Wv V P 33 r = if r = V 0 4 then (xfR K S Wv V P).2.2 0 16 else (xfR K S Wv V P).2.2 33 r := by unfold smRight; rw [jup_ne (by decide), jup_self]
        rw [e33]
        by_cases er : r = V 0 4
        · rw [if_pos er, if_pos er]; exact b1
        · rw [if_neg er, if_neg er]; exact b4 r r0 (by rw [V4]; omega)
  by_cases hz : (x0R K S V P).1.2.1 = 0
  · have s2 := stq_ok hz
    have s1 := stq_ok s2.1
    have s0 := rmF_ok s1.1
    have e2 : (x0R K S V P).1.1 = P.1 + 2 := by
      show (stq K S 13 (stq K S 4 (rmF S (V 0 4) 8 P))).1 = _
      rw [s2.2.2.2, s1.2.2.2, s0.2.2]
      show P.1 + 1 + 1 = _
      omega
    have n2 : (x0R K S V P).1.1 ≤ n := stq_n hV (stq_n hV (by rw [rmF_1]; exact hn) (by decide)) (by decide)
    have I0 : XI n (x0R K S V P) := by
      refine ⟨?_, fun _ => ⟨?_, ?_⟩, ?_, ?_, n2, ?_, fun w => ?_⟩
      · show (x0R K S V P).2.2 0 23 = 0
        unfold x0R; simp [jup]
      · unfold x0R; simp [jup]
      · show (0 : Int) ≤ 3; decide
      · rw [V0 16 (by decide), e2]
        show V 0 16 + ((0 : Nat) : Int) + 2 ≤ P.1 + 2
        omega
      · unfold x0R; simp [jup]
      · rw [V0 16 (by decide)]; exact c0.1
      · unfold x0R at w; simp [jup] at w
    exact c_rightLoop ht hV 401 (x0R K S V P) 1 0 m4 (by decide) (by rw [e2]; omega) (by decide) (by rw [e2]; omega) r4 hz P4 R4 I0 (fun m5 r5 P5 R5 => fin m5 r5 P5 (fun w => ⟨R5 w, s0.2.1⟩))
  · have ex : xfR K S Wv V P = x0R K S V P := xlp_f hz
    have go : ML iX8_endRight [(2, t)] m4 (fun _ m4 => Q 0 m4) := fin m4 r4 (by rw [ex]; exact P4) (fun w => absurd (by rw [ex] at w; exact w) hz)
    have nz : m4 1 0 ≠ 0 := by rw [P4.2.2.1]; exact hz
    exact sX4_readRight_39 ht ⟨fun z => absurd z (by decide), fun _ => ⟨fun z => absurd z (by decide), fun _ => ⟨fun _ => go, fun z => absurd nz z⟩⟩⟩

/-- tokens as they must be, up to the last, n -/
def tV (K W : Int → Int) (n : Int) : Prop := (0 ≤ n ∧ n ≤ 400) ∧ (n = 400 ∨ K n = 34 ∨ K n = 35) ∧ ∀ i, 0 ≤ i → i ≤ n → K i = 23 → 0 ≤ W i ∧ W i ≤ 9999
theorem stq_n {K S W : Int → Int} {n k : Int} {P : Int × Int × Int} (hv : tV K W n) (hp : P.1 ≤ n) (hk : k ≤ 33) : (stq K S k P).1 ≤ n := by
  unfold stq
  split
  · exact hp
  · split
    · exact hp
    · split
      · exact hp
      · rename_i h1 h2 h3
        have e : K P.1 = k := Classical.byContradiction h2
        show P.1 + 1 ≤ n
        by_cases c : P.1 = n
        · rcases hv.2.1 with w | w | w
          · omega
          · rw [← c] at w; omega
          · rw [← c] at w; omega
        · omega
theorem rmF_1 {S : Int → Int} {c b : Int} {P : Int × Int × Int} : (rmF S c b P).1 = P.1 := by
  unfold rmF flF
  split
  · rfl
  · split <;> rfl
theorem vb_places {V m : jM} {t x : Int} (h : vb V t m) : vb (jup V 0 0 x) t (jup m t 1 x) := by
  obtain ⟨⟨ht, ⟨c0, c1, c2, c3, c4⟩, hW, hB, hS, hT, hR⟩, hb⟩ := h
  have tr := jTx_rng ht
  have f : ∀ j, j ≠ 1 → jup m t 1 x t j = m t j := fun j hj => by rw [jup_self, if_neg hj]
  have r : ∀ j, j ≠ 0 → jup m t 1 x (t + j) = m (t + j) := fun j hj => jup_ne (by omega)
  refine ⟨⟨ht, ⟨?_, ?_, ?_, ?_, ?_⟩, fun i i0 i1 => ?_, ?_, fun i i0 i1 => ?_, fun i i0 i1 => ?_, fun i i0 i1 => ?_⟩, fun i i0 i1 => ?_⟩
  · rw [jup_s, jup_s]
  · rw [f 2 (by decide)]; exact c1
  · rw [f 8 (by decide)]; exact c2
  · rw [f 11 (by decide)]; exact c3
  · rw [f 13 (by decide)]; exact c4
  · rw [r 1 (by decide), r 2 (by decide), r 3 (by decide), r 4 (by decide), f 7 (by decide)]
    exact hW i i0 i1
  · rw [f 7 (by decide)]; exact hB
  · rw [r 5 (by decide), r 6 (by decide)]; exact hS i i0 i1
  · rw [r 7 (by decide)]; exact hT i i0 i1
  · rw [r 10 (by decide)]; exact hR i i0 i1
  · rw [f 7 (by decide)]; exact hb i i0 i1
theorem vb_rule {V m : jM} {t j x : Int} (h : vb V t m) : vb (jup V 9 j x) t (jup m (t + 10) j x) := by
  obtain ⟨⟨ht, ⟨c0, c1, c2, c3, c4⟩, hW, hB, hS, hT, hR⟩, hb⟩ := h
  have tr := jTx_rng ht
  have f : ∀ i, jup m (t + 10) j x t i = m t i := fun i => by rw [jup_ne (by omega)]
  have r : ∀ i, i ≠ 10 → jup m (t + 10) j x (t + i) = m (t + i) := fun i hi => jup_ne (by omega)
  refine ⟨⟨ht, ⟨?_, ?_, ?_, ?_, ?_⟩, fun i i0 i1 => ?_, ?_, fun i i0 i1 => ?_, fun i i0 i1 => ?_, fun i i0 i1 => ?_⟩, fun i i0 i1 => ?_⟩
  · rw [f]; exact c0
  · rw [f]; exact c1
  · rw [f]; exact c2
  · rw [f]; exact c3
  · rw [f]; exact c4
  · rw [r 1 (by decide), r 2 (by decide), r 3 (by decide), r 4 (by decide), f]
    exact hW i i0 i1
  · rw [f]; exact hB
  · rw [r 5 (by decide), r 6 (by decide)]; exact hS i i0 i1
  · rw [r 7 (by decide)]; exact hT i i0 i1
  · rw [jup_self, jup_self, hR i i0 i1]
  · rw [f]; exact hb i i0 i1
def smPlace (W S : Int → Int) (a : Int) (V : jM) : jM := jup (tlN W S (a + 1) (V 0 0) V) 0 0 (V 0 0 + 1)
def sxPlace (K S : Int → Int) (V : jM) (P : Int × Int × Int) : Int × Int × Int := stq K S 24 (stq K S 22 (stq K S 0 (rmF S (V 0 0) 12 P)))
theorem c_readPlace {K S W : Int → Int} {V m : jM} {Q : Int → jM → Prop} {P : Int × Int × Int} {t : Int} (ht : jTx t) (hT : cTk K S W m) (hP : cPs P m) (hS : cMn V t m) (o : smOk V) (hQ : ∀ m', rdU t m m' → cTk K S W m' → cPs (sxPlace K S V P) m' → cMn (if (sxPlace K S V P).2.1 = 0 then smPlace W S P.1 V else V) t m' → Q 0 m') : ML iX4_readPlace [(2, 1), (2, t)] m Q := by
  have tr := jTx_rng ht
  have p0 := hP.1
  refine sX4_readPlace ht ?_
  rw [hS.1.1.2.1.1]
  refine k_room ht hT hP hS rdU_rf (fun m1 f1 T1 P1 S1 => k_take ht T1 P1 S1 f1 (fun m2 f2 T2 P2 S2 => k_take ht T2 P2 S2 f2 (fun m3 f3 T3 P3 S3 => k_take ht T3 P3 S3 f3 (fun m4 f4 T4 P4 S4 => ⟨fun z => ?_, fun z => ?_⟩))))
  · have hz : (sxPlace K S V P).2.1 ≠ 0 := fun w => z (P4.2.2.1.trans w)
    rw [if_neg hz] at hQ
    exact hQ m4 f4 T4 P4 S4
  · have hz : (sxPlace K S V P).2.1 = 0 := P4.2.2.1.symm.trans (Classical.byContradiction z)
    rw [if_pos hz] at hQ
    have s3 := stq_ok hz
    have s2 := stq_ok s3.1
    have s1 := stq_ok s2.1
    have s0 := rmF_ok s1.1
    have e2 : (stq K S 0 (rmF S (V 0 0) 12 P)).1 = P.1 + 1 := by rw [s1.2.2.2, s0.2.2]
    rw [P2.2.1, e2, S4.1.1.2.1.1]
    have a0 := o.1
    refine k_name ht T4 P4 S4 f4 o (by omega) (by have := s2.2.2.1; omega) (Or.inl s0.2.1) (fun m5 f5 T5 P5 S5 => ?_)
    have e5 : m5 t 1 = V 0 0 := by rw [S5.1.1.2.1.1]; exact tlN_V.1 0 (by decide) (by decide) (by decide)
    rw [e5, jw_id (x := V 0 0 + 1) (by omega) (by omega)]
    refine hQ _ (rdU_tr f5 (rdU_of ht (frx_upF (S := []) (K := [(t, 1)]) frx_rf (by simp)) (by simp) (by simp))) (cTk_fr T5 (fun q hq => jup_ne (by simp only [List.mem_cons, List.not_mem_nil, or_false] at hq; omega))) (cPs_fr P5 (by rw [jup_ne (by omega)]) (by rw [jup_ne (by omega)]) (by rw [jup_ne (by omega)])) ⟨vb_places S5.1, ?_⟩
    have n5 := S5.2
    unfold cNm at n5 ⊢
    unfold smPlace
    rw [jup_ne (show (1 : Int) ≠ t by omega), jup_ne (show (8 : Int) ≠ t by omega), jup_ne (show (9 : Int) ≠ t by omega)]
    exact n5

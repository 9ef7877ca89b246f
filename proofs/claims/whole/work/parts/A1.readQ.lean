/-! read: the class, then the reference -/
/-- what reading text k leaves alone -/
def oqN (k q i : Int) : Prop := (q < 139 ∧ q ≠ 1 ∧ q ≠ 4 ∧ q ≠ 5 ∧ q ≠ 6 ∧ q ≠ 8 ∧ q ≠ 9 ∧ q ≠ 10 ∧ (q < 27 + 12 * k ∨ 27 + 12 * k + 10 < q) ∧ (q = 0 → i ≠ 10 ∧ i ≠ 11) ∧ (q = 2 → i ≠ 1)) ∨ (139 ≤ q ∧ okT k q i ∧ (q = 139 → i ≠ 0 ∧ i ≠ 12) ∧ q ≠ 145)
def rqN (k : Int) (m m' : jM) : Prop := ∀ q i, oqN k q i → m' q i = m q i
theorem rqN_row {k q : Int} {m m' : jM} (h : rqN k m m') (hq : q < 139 ∧ q ≠ 0 ∧ q ≠ 1 ∧ q ≠ 2 ∧ q ≠ 4 ∧ q ≠ 5 ∧ q ≠ 6 ∧ q ≠ 8 ∧ q ≠ 9 ∧ q ≠ 10 ∧ (q < 27 + 12 * k ∨ 27 + 12 * k + 10 < q)) : m' q = m q := by
  funext i
  exact h q i (Or.inl ⟨hq.1, by omega, by omega, by omega, by omega, by omega, by omega, by omega, by omega, fun w => by omega, fun w => by omega⟩)
theorem rqN_fact {k q : Int} {m m' : jM} (h : rqN k m m') (hq : 173 < q ∧ q ≠ 189) : m' q = m q := by
  funext i
  exact h q i (Or.inr ⟨by omega, Or.inl ⟨by omega, by omega, by omega⟩, fun w => by omega, by omega⟩)
theorem vw_N {m m' : jM} {k j day n : Int} (h : rqN k m m') (hk : 0 ≤ k ∧ k < 3) (hj : 0 ≤ j ∧ j < 3) (hn : j ≠ k) : vw m' j day n = vw m j day n := by
  have c : ∀ q i, 139 ≤ q → okT k q i → q ≠ 139 → q ≠ 145 → m' q i = m q i := fun q i a b d e => h q i (Or.inr ⟨a, b, fun w => absurd w d, e⟩)
  have e50 : m' 139 50 = m 139 50 := h 139 50 (Or.inr ⟨by decide, Or.inr (Or.inl ⟨rfl, by decide⟩), fun _ => by decide, by decide⟩)
  have c0 : ∀ q, q = 147 ∨ q = 148 ∨ q = 154 ∨ q = 157 ∨ q = 159 → m' q j = m q j := fun q hq => c q j (by omega) (Or.inr (Or.inr (Or.inl ⟨by omega, hn⟩))) (by omega) (by omega)
  have c24 : ∀ q, 149 ≤ q → q ≤ 153 → cut 24 (fun i => m' q (24 * j + i)) = cut 24 (fun i => m q (24 * j + i)) := fun q a b => cut_cg rfl (fun i i0 i1 => c q _ (by omega) (Or.inr (Or.inr (Or.inr (Or.inl ⟨by omega, by omega, by omega⟩)))) (by omega) (by omega))
  have c3 : ∀ q, q = 155 ∨ q = 156 → cut 3 (fun i => m' q (3 * j + i)) = cut 3 (fun i => m q (3 * j + i)) := fun q a => cut_cg rfl (fun i i0 i1 => c q _ (by omega) (Or.inr (Or.inr (Or.inr (Or.inr (Or.inl ⟨by omega, by omega⟩))))) (by omega) (by omega))
  have c6 : cut 6 (fun i => m' 158 (6 * j + i)) = cut 6 (fun i => m 158 (6 * j + i)) := cut_cg rfl (fun i i0 i1 => c 158 _ (by omega) (Or.inr (Or.inr (Or.inr (Or.inr (Or.inr (Or.inl ⟨rfl, by omega⟩)))))) (by omega) (by omega))
  have c7 : cut 7 (fun i => m' 146 (7 * j + i)) = cut 7 (fun i => m 146 (7 * j + i)) := cut_cg rfl (fun i i0 i1 => c 146 _ (by omega) (Or.inr (Or.inr (Or.inr (Or.inr (Or.inr (Or.inr (Or.inl ⟨rfl, by omega⟩))))))) (by omega) (by omega))
  have c8 : ∀ q, q = 160 ∨ q = 161 → cut 8 (fun i => m' q (8 * j + i) - 200 * j) = cut 8 (fun i => m q (8 * j + i) - 200 * j) := fun q a => cut_cg rfl (fun i i0 i1 => by rw [c q _ (by omega) (Or.inr (Or.inr (Or.inr (Or.inr (Or.inr (Or.inr (Or.inr (Or.inl ⟨by omega, by omega⟩)))))))) (by omega) (by omega)])
  have c500 : ∀ q, q = 163 ∨ q = 164 → cut 500 (fun i => m' q (500 * j + i)) = cut 500 (fun i => m q (500 * j + i)) := fun q a => cut_cg rfl (fun i i0 i1 => c q _ (by omega) (Or.inr (Or.inr (Or.inr (Or.inr (Or.inr (Or.inr (Or.inr (Or.inr (Or.inl ⟨by omega, by omega⟩))))))))) (by omega) (by omega))
  have c200 : ∀ q, 166 ≤ q → q ≤ 171 → cut 200 (fun i => m' q (200 * j + i)) = cut 200 (fun i => m q (200 * j + i)) := fun q a b => cut_cg rfl (fun i i0 i1 => c q _ (by omega) (Or.inr (Or.inr (Or.inr (Or.inr (Or.inr (Or.inr (Or.inr (Or.inr (Or.inr (Or.inl ⟨by omega, by omega, by omega⟩)))))))))) (by omega) (by omega))
  have d200 : ∀ q, 166 ≤ q → q ≤ 171 → cut 200 (fun i => m' q (200 * j + i) - 500 * j) = cut 200 (fun i => m q (200 * j + i) - 500 * j) := fun q a b => cut_cg rfl (fun i i0 i1 => by rw [c q _ (by omega) (Or.inr (Or.inr (Or.inr (Or.inr (Or.inr (Or.inr (Or.inr (Or.inr (Or.inr (Or.inl ⟨by omega, by omega, by omega⟩)))))))))) (by omega) (by omega)])
  unfold vw kn
  rw [e50, rqN_fact h (q := 174) (by decide), rqN_fact h (q := 175) (by decide), rqN_fact h (q := 176) (by decide), rqN_fact h (q := 177) (by decide), rqN_fact h (q := 178) (by decide), rqN_fact h (q := 179) (by decide), c0 147 (by omega), c0 148 (by omega), c0 154 (by omega), c0 157 (by omega), c0 159 (by omega), c24 149 (by decide) (by decide), c24 150 (by decide) (by decide), c24 151 (by decide) (by decide), c24 152 (by decide) (by decide), c24 153 (by decide) (by decide), c3 155 (by omega), c3 156 (by omega), c6, c7, c8 160 (by omega), c8 161 (by omega), c500 163 (by omega), c500 164 (by omega), c200 166 (by decide) (by decide), c200 167 (by decide) (by decide), c200 171 (by decide) (by decide), d200 168 (by decide) (by decide), d200 169 (by decide) (by decide), d200 170 (by decide) (by decide)]
theorem tx_row {m m' : jM} {k j i : Int} (h : rqN k m m') (hk : 0 ≤ k ∧ k < 3) (hj : 0 ≤ j ∧ j < 3) (hn : j ≠ k) (i0 : 0 ≤ i) (i1 : i < 11) : m' (27 + 12 * j + i) = m (27 + 12 * j + i) := rqN_row h ⟨by omega, by omega, by omega, by omega, by omega, by omega, by omega, by omega, by omega, by omega, by omega⟩
theorem c_readNo {m : jM} {Q : Int → jM → Prop} {a : Int} (h : m 139 12 = 3 ∨ a < 0 ∨ 364 < a) (hQ : Q (-2) m) : ML iX11_read [(2, 139), (0, a)] m Q := sX11_read ⟨fun _ => hQ, fun z => ⟨fun _ => hQ, fun z1 => ⟨fun z2 => absurd h (by omega), fun _ => hQ⟩⟩⟩
def rdOut (m m2 : jM) : Prop := m2 = m ∨ (m 139 12 < 3 ∧ rqN (m 139 12) m m2 ∧ m2 2 1 = 0 ∧ m2 139 0 = 0 ∧ m2 0 11 = m2 139 9 ∧ txInv m2 ∧ m 139 12 ≤ m2 139 12)
theorem tx_old {m m2 : jM} {k j : Int} (hN : rqN k m m2) (hk : 0 ≤ k ∧ k < 3) (hx : txInv m) (ek : m 139 12 = k) (j0 : 0 ≤ j) (j1 : j < k) (e145 : m2 145 j = m 145 j) : m2 (27 + 12 * j) 0 = m2 145 j ∧ vKt (vw m2 j 0 0) ∧ vKd (vw m2 j 0 0) ∧ vCt (vw m2 j 0 0) (27 + 12 * j) m2 ∧ cdR (vw m2 j 0 0) (27 + 12 * j) m2 := by
  have q := hx.2 j j0 (by rw [ek]; exact j1)
  have r : ∀ i, 0 ≤ i → i < 11 → m2 (27 + 12 * j + i) = m (27 + 12 * j + i) := fun i i0 i1 => tx_row hN hk (by omega) (by omega) i0 i1
  have r0 := r 0 (by decide) (by decide)
  rw [Int.add_zero] at r0
  rw [vw_N hN hk (by omega) (by omega), r0, e145]
  exact ⟨q.1, q.2.1, q.2.2.1, vCt_fr3 q.2.2.2.1 r, cdR_fr q.2.2.2.2 (r 8 (by decide) (by decide)) (r 9 (by decide) (by decide))⟩
theorem p_read {m : jM} {a : Int} (h : tpInv m) (hw : wkI m) (hU : utI m) (hx : txInv m) : ML iX10_read [(2, 0), (0, a)] m (fun r m1 => ML iX11_read [(2, 139), (0, a)] m1 (fun r' m2 => r = r' ∧ rdOut m m2)) := by
  obtain ⟨x0, x3, xe⟩ := hx.1
  obtain ⟨k, ek⟩ : ∃ k, m 139 12 = k := ⟨_, rfl⟩
  have et : m 0 10 = k := xe.trans ek
  have no : (m 139 12 = 3 ∨ a < 0 ∨ 364 < a) → ML iX11_read [(2, 139), (0, a)] m (fun r' m2 => -2 = r' ∧ rdOut m m2) := fun w => c_readNo w ⟨rfl, Or.inl rfl⟩
  refine sX10_read (sX10_isDay (sX10_within ⟨fun z => ⟨Or.inl rfl, fun _ => no (by omega), fun w => absurd rfl w⟩, fun z => ⟨fun z1 => ⟨Or.inl rfl, fun _ => no (by omega), fun w => absurd rfl w⟩, fun z1 => ⟨Or.inr rfl, fun w => absurd w (by decide), fun _ => ⟨fun z2 => ?_, fun z2 => no (by omega)⟩⟩⟩⟩))
  rw [et] at z2 ⊢
  have k0 : 0 ≤ k := by omega
  have ht : jTx (27 + 12 * k) := by unfold jTx; omega
  have tr := jTx_rng ht
  have hb : bcI m := ⟨by rw [h.1]; exact ⟨h.2.1, h.2.2.1⟩, fun i i0 i1 => by rw [h.1] at i1; have q := h.2.2.2 i i0 i1; rw [q.1]; exact q.2⟩
  have rB : ∀ mm : jM, mm 139 0 = m 139 0 → mm 140 = m 140 → rbI (Bc m) mm := by
    intro mm e0 e1
    refine ⟨by rw [e0]; exact ⟨h.2.1, h.2.2.1⟩, fun p p0 p1 => ?_, fun p p1 => ?_⟩
    · rw [e0] at p1
      have q := h.2.2.2 p p0 p1
      have eB : Bc m p = m 3 p := if_pos ⟨p0, by rw [h.1]; exact p1⟩
      rw [e1, eB, q.1]
      exact ⟨rfl, q.2⟩
    · rw [e0] at p1
      exact if_neg (fun w => by have := w.2; rw [h.1] at this; omega)
  refine ⟨k0, z2, c_readTape ht hU hb hw (fun m1 K S W n hN fB hC => ?_)⟩
  have h139 : ∀ q, 139 ≤ q → m1 q = m q := fun q hq => by funext i; exact fB q i (by omega)
  have e010 : ∀ i, m1 0 i = m 0 i := fun i => fB 0 i (by omega)
  -- what stays, whatever was put down behind it
  have stay : ∀ (mm m2 : jM), (∀ q i, q < 139 → ¬ (q = 2 ∧ i = 1) → ¬ (q = 0 ∧ (i = 10 ∨ i = 11)) → ¬ (q = 27 + 12 * k ∧ i = 0) → mm q i = m1 q i) → (∀ q, 139 ≤ q → mm q = m1 q) → (∀ q i, okT k q i → (q = 139 → i ≠ 0 ∧ i ≠ 12) → q ≠ 145 → m2 q i = mm q i) → rqN k m m2 := by
    intro mm m2 h1 h2 h3 q i hq
    rcases hq with ⟨q0, q1, q4, q5, q6, q8, q9, q10, qt, qo, q2⟩ | ⟨q0, q1, q2, q3⟩
    · rw [h3 q i (by unfold okT; omega) (fun w => by omega) (by omega), h1 q i q0 (fun w => q2 w.1 w.2) (fun w => by have := qo w.1; omega) (fun w => by omega)]
      exact fB q i (by omega)
    · rw [h3 q i q1 q2 q3, h2 q q0, h139 q q0]
  refine ⟨fun z => ?_, fun z => ?_⟩
  · rw [e010 10, et, jw_id (x := k + 1) (by omega) (by omega)]
    generalize hmm : jup (jup (jup (jup m1 2 1 0) 0 11 (-1)) (27 + 12 * k) 0 a) 0 10 (k + 1) = mm
    have f1 : ∀ q i, q < 139 → ¬ (q = 2 ∧ i = 1) → ¬ (q = 0 ∧ (i = 10 ∨ i = 11)) → ¬ (q = 27 + 12 * k ∧ i = 0) → mm q i = m1 q i := by
      intro q i _ a1 a2 a3
      rw [← hmm]
      show (if q = 0 ∧ i = 10 then _ else if q = 27 + 12 * k ∧ i = 0 then _ else if q = 0 ∧ i = 11 then _ else if q = 2 ∧ i = 1 then _ else _) = _
      rw [if_neg (fun w => a2 ⟨w.1, Or.inl w.2⟩), if_neg a3, if_neg (fun w => a2 ⟨w.1, Or.inr w.2⟩), if_neg a1]
    have f2 : ∀ q, 139 ≤ q → mm q = m1 q := fun q hq => by rw [← hmm, jup_ne (by omega), jup_ne (by omega), jup_ne (by omega), jup_ne (by omega)]
    have g139 : ∀ q, 139 ≤ q → mm q = m q := fun q hq => (f2 q hq).trans (h139 q hq)
    refine c_readR (k := k) (rB mm (by rw [g139 139 (by decide)]) (g139 140 (by decide))) hN (by rw [g139 139 (by decide)]; exact ek) k0 (by omega) (fun w => absurd w (by omega)) (fun r m2 _ _ _ o => ?_)
    generalize tlF K S W 401 (P0, V0) = Y at o hC
    obtain ⟨o1, o2, o3⟩ := o
    have hN2 := stay mm m2 f1 f2 o1
    have low : ∀ q i, q < 139 → m2 q i = mm q i := fun q i hq => o1 q i (by unfold okT; omega) (fun w => by omega) (by omega)
    have c2 : Y.1.2.1 = 0 ∧ Y.2 0 11 = 0 := by
      rcases hC with ⟨w1, w2, -⟩ | ⟨w1, w2, -⟩
      · exact absurd (w2.symm.trans z) w1
      · exact ⟨w1, w2.symm.trans z⟩
    rcases hC with ⟨w1, -⟩ | ⟨-, w2, -, wV, wD⟩
    · exact absurd c2.1 w1
    rcases o3 with ⟨w1, -⟩ | ⟨-, w1, -⟩ | ⟨-, -, e, p9, p12, pa, p145, oM, oR, oL, oT⟩
    · exact absurd c2.1 w1
    · exact absurd c2.2 w1
    have a21 : m2 2 1 = 0 := by
      rw [low 2 1 (by decide), ← hmm]
      show (if (2 : Int) = 0 ∧ (1 : Int) = 10 then _ else if (2 : Int) = 27 + 12 * k ∧ (1 : Int) = 0 then _ else if (2 : Int) = 0 ∧ (1 : Int) = 11 then _ else if (2 : Int) = 2 ∧ (1 : Int) = 1 then _ else _) = _
      rw [if_neg (by decide), if_neg (by omega), if_neg (by decide), if_pos ⟨rfl, rfl⟩]
    have a011 : m2 0 11 = -1 := by
      rw [low 0 11 (by decide), ← hmm, jup_j (by decide), jup_ne (by omega), jup_s]
    have a010 : m2 0 10 = k + 1 := by rw [low 0 10 (by decide), ← hmm, jup_s]
    have at0 : m2 (27 + 12 * k) 0 = a := by rw [low _ 0 (by omega), ← hmm, jup_ne (by omega), jup_s]
    have trow : ∀ q, 27 + 12 * k < q → q ≤ 27 + 12 * k + 10 → m2 q = m1 q := fun q q0 q1 => by
      funext i
      rw [low q i (by omega), f1 q i (by omega) (by omega) (by omega) (by omega)]
    have trt : ∀ i, i ≠ 0 → m2 (27 + 12 * k) i = m1 (27 + 12 * k) i := fun i hi => by
      rw [low _ i (by omega), f1 _ i (by omega) (by omega) (by omega) (by omega)]
    refine ⟨e.symm, Or.inr ⟨by rw [ek]; exact z2, by rw [ek]; exact hN2, a21, o2, a011.trans p9.symm, ⟨⟨by rw [p12]; omega, by rw [p12]; omega, a010.trans p12.symm⟩, fun j j0 j1 => ?_⟩, by rw [ek, p12]; omega⟩⟩
    rw [p12] at j1
    by_cases c : j = k
    · subst c
      refine ⟨at0.trans pa.symm, tx_new oM c2.2 oT.2.1 (oL.2.2 c2.2) oR ?_ ?_⟩
      · exact vCt_f wV (fun i hi => trt i (by omega)) (fun i i0 i1 => trow _ (by omega) (by omega))
      · unfold cCd at wD ⊢
        rw [trt 16 (by decide), trow (27 + 12 * j + 9) (by omega) (by omega), trow (27 + 12 * j + 8) (by omega) (by omega)]
        exact wD
    · exact tx_old hN2 ⟨k0, z2⟩ hx ek j0 (by omega) (by rw [p145 j c, g139 145 (by decide)])
  · generalize hmm : jup (jup m1 2 1 0) 0 11 (m1 1 1) = mm
    have f1 : ∀ q i, q < 139 → ¬ (q = 2 ∧ i = 1) → ¬ (q = 0 ∧ (i = 10 ∨ i = 11)) → ¬ (q = 27 + 12 * k ∧ i = 0) → mm q i = m1 q i := by
      intro q i _ a1 a2 a3
      rw [← hmm]
      show (if q = 0 ∧ i = 11 then _ else if q = 2 ∧ i = 1 then _ else _) = _
      rw [if_neg (fun w => a2 ⟨w.1, Or.inr w.2⟩), if_neg a1]
    have f2 : ∀ q, 139 ≤ q → mm q = m1 q := fun q hq => by rw [← hmm, jup_ne (by omega), jup_ne (by omega)]
    have g139 : ∀ q, 139 ≤ q → mm q = m q := fun q hq => (f2 q hq).trans (h139 q hq)
    refine c_readR (k := k) (rB mm (by rw [g139 139 (by decide)]) (g139 140 (by decide))) hN (by rw [g139 139 (by decide)]; exact ek) k0 (by omega) (fun w => absurd w (by omega)) (fun r m2 _ _ _ o => ?_)
    generalize tlF K S W 401 (P0, V0) = Y at o hC
    obtain ⟨o1, o2, o3⟩ := o
    have hN2 := stay mm m2 f1 f2 o1
    have low : ∀ q i, q < 139 → m2 q i = mm q i := fun q i hq => o1 q i (by unfold okT; omega) (fun w => by omega) (by omega)
    have a21 : m2 2 1 = 0 := by rw [low 2 1 (by decide), ← hmm, jup_ne (by decide), jup_s]
    have a011 : m2 0 11 = m1 1 1 := by rw [low 0 11 (by decide), ← hmm, jup_s]
    have a010 : m2 0 10 = k := by rw [low 0 10 (by decide), ← hmm, jup_j (by decide), jup_ne (by decide), e010]; exact et
    have fin : r = m1 1 0 → m2 139 9 = m1 1 1 → m2 139 12 = k → m2 145 = mm 145 → m1 1 0 = r ∧ rdOut m m2 := by
      intro e p9 p12 p145
      refine ⟨e.symm, Or.inr ⟨by rw [ek]; exact z2, by rw [ek]; exact hN2, a21, o2, a011.trans p9.symm, ⟨⟨by rw [p12]; omega, by rw [p12]; omega, a010.trans p12.symm⟩, fun j j0 j1 => ?_⟩, by rw [ek, p12]; omega⟩⟩
      rw [p12] at j1
      exact tx_old hN2 ⟨k0, z2⟩ hx ek j0 j1 (by rw [p145, g139 145 (by decide)])
    rcases hC with ⟨w1, w2, w3⟩ | ⟨w1, w2, w3, -⟩
    · rcases o3 with ⟨-, e, p9, p12, p145⟩ | ⟨w, -⟩ | ⟨w, -⟩
      · exact fin (e.trans w2.symm) (p9.trans w3.symm) p12 p145
      · exact absurd w w1
      · exact absurd w w1
    · have w11 : Y.2 0 11 ≠ 0 := by rw [← w2]; exact z
      rcases o3 with ⟨w, -⟩ | ⟨-, -, e, p9, p12, p145⟩ | ⟨-, w, -⟩
      · exact absurd w1 w
      · exact fin (e.trans w2.symm) (p9.trans (w3 w11).symm) p12 p145
      · exact absurd w w11

/-! rights and stops of children in the reference -/
theorem c_rightOfR {V m0 m : jM} {Q : Int → jM → Prop} {k c : Int} (hf : vKf V) (ht : vKt V) (hd : vKd V) (hI : lI V m0 k 3 m) (hrf : vRf V m) (hrt : vRt V k m) (hrd : vRd V k m) (c0 : 0 ≤ c) (c1 : c < V 0 7) (hQ : ∀ m', fr [192, 193] m m' → Q (if vRgt V c = -1 then -2 else vRgt V c) m') : ML iX11_rightOf [(2, 139), (0, c), (0, V 0 5), (0, V 0 6)] m Q := by
  have tk := hf.1
  have hN := ht.1
  obtain ⟨i1, i2, i3, i4⟩ := id hI
  obtain ⟨⟨k0, k1, r1, r2, r3, r4, r5⟩, w1, w2, w3, w4⟩ := id hrt
  have fc := hf.2.2 c c0 c1
  have ec := hrf.2.2.1 c c0 c1
  have ef := hrf.2.1 _ fc.1 fc.2.1
  have hm := vHome_in hf c0 c1
  have sp := vSP_in ht hf c0 c1
  have hfv := (hf.2.1 _ fc.1 fc.2.1).1
  have h12 : 0 ≤ V 12 (V 15 c) := by unfold fcVal at hfv; omega
  refine sX11_rightOf ⟨c0, by omega, c_homeR hf hrf c0 c1 ?_⟩
  rw [ec, i2, r3, ef.2.2.1, ef.2.2.2.1, ef.2.2.2.2]
  have step : ∀ (what : Int) (m1 : jM), 0 ≤ what → what < 2 → fr [192, 193] m m1 → (GL iX11_rightOf (jup m1 192 (2 + what) (vFar V what c)) 89 [(2, 139), (9, 0), (0, V 0 5), (9, 0), (9, 0), (0, vHome V c), (9, 0), (0, vSP V c), (0, what + 1)] [] Q) → GL iX11_rightOf m1 89 [(2, 139), (9, 0), (0, V 0 5), (9, 0), (9, 0), (0, vHome V c), (9, 0), (0, vSP V c), (0, what)] [] Q := by
    intro what m1 a0 a1 f1 K
    have e191 : m1 191 = m 191 := f1 191 (by decide)
    refine sX11_rightOf_89 ⟨fun z => absurd z (by omega), fun _ => ?_⟩
    rw [jw_id (x := 2 + what) (by omega) (by omega), jw_id (x := what + 1) (by omega) (by omega)]
    refine ⟨fun z => ⟨by omega, by omega, ?_⟩, fun z => ?_⟩
    · have : vFar V what c = 9999 := by
        unfold vFar
        rw [if_pos (vD_out ht (by omega))]
      rw [this] at K
      exact K
    · have hv : m1 191 (lx what (vHome V c) (vSP V c)) = vD V what (vHome V c) (vSP V c) := by
        rw [e191]
        exact i4 what a0 (by omega) _ _ hm.1 hm.2 (by omega) (by omega)
      refine c_leastOf a0 (by omega) hm.1 hm.2 (by omega) (by omega) ?_
      rw [hv]
      have bd := vD_ge ht what (vHome V c) (vSP V c)
      unfold vFar at K
      refine ⟨fun y => c_leastOf a0 (by omega) hm.1 hm.2 (by omega) (by omega) ?_, fun y => ⟨by omega, by omega, ?_⟩⟩
      · rw [hv]
        rw [if_neg (by omega)] at K
        exact ⟨by omega, by omega, K⟩
      · rw [if_pos (by omega)] at K
        exact K
  have go : GL iX11_rightOf (jup (jup m 192 0 (V 13 (V 15 c))) 192 1 (V 14 (V 15 c))) 89 [(2, 139), (9, 0), (0, V 0 5), (9, 0), (9, 0), (0, vHome V c), (9, 0), (0, vSP V c), (0, 0)] [] Q := by
    have f1 : fr [192, 193] m (jup (jup m 192 0 (V 13 (V 15 c))) 192 1 (V 14 (V 15 c))) := fr_up (fr_up fr_rf (by decide)) (by decide)
    refine step 0 _ (by decide) (by decide) f1 ?_
    rw [show (0 : Int) + 1 = 1 from rfl, show (2 : Int) + 0 = 2 from rfl]
    have f2 := fr_up f1 (p := 192) (i := 2) (x := vFar V 0 c) (by decide)
    refine step 1 _ (by decide) (by decide) f2 ?_
    rw [show (1 : Int) + 1 = 2 from rfl, show (2 : Int) + 1 = 3 from rfl]
    have f3 := fr_up f2 (p := 192) (i := 3) (x := vFar V 1 c) (by decide)
    refine sX11_rightOf_89 ⟨fun _ => ?_, fun z => absurd (by decide) z⟩
    have f4 := fr_up f3 (p := 192) (i := 4) (x := V 0 5) (by decide)
    generalize hm4 : jup (jup (jup (jup (jup m 192 0 (V 13 (V 15 c))) 192 1 (V 14 (V 15 c))) 192 2 (vFar V 0 c)) 192 3 (vFar V 1 c)) 192 4 (V 0 5) = m4 at *
    have hx4 : ∀ i, 0 ≤ i → i < 5 → m4 192 i = vX V c i := by
      intro i h0 h1
      have : i = 0 ∨ i = 1 ∨ i = 2 ∨ i = 3 ∨ i = 4 := by omega
      rcases this with rfl | rfl | rfl | rfl | rfl
      · rw [← hm4]; rfl
      · rw [← hm4]; rfl
      · rw [← hm4]; rfl
      · rw [← hm4]; rfl
      · rw [← hm4]; rfl
    refine lup (n := V 0 4) (I := fun r (m5 : jM) => 0 ≤ r ∧ r ≤ V 0 4 ∧ fr [193] m4 m5 ∧ frS V (vX V c) = frN V (vX V c) (V 0 4 - r).toNat) (G := fun r m5 => GL iX11_rightOf m5 154 [(2, 139), (9, 0), (9, 0), (9, 0), (9, 0), (9, 0), (9, 0), (9, 0), (0, r)] [] Q) ?_ ?_ 0 m4 ⟨by decide, by omega, fr_rf, by rw [Int.sub_zero]; rfl⟩
    · rintro r m5 hr ⟨q0, q1, f5, e⟩ K
      have nx : frN V (vX V c) (V 0 4 - r).toNat = if heldB V (vX V c) (V 20 r) (V 21 r) = true then r else frN V (vX V c) (V 0 4 - (r + 1)).toNat := by
        rw [show (V 0 4 - r).toNat = (V 0 4 - (r + 1)).toNat + 1 by omega]
        simp only [frN]
        rw [show V 0 4 - (((V 0 4 - (r + 1)).toNat + 1 : Nat) : Int) = r by omega]
      have f5' : fr [192, 193] m m5 := fr_tr f4 (fr_mono f5 (by simp))
      have rd := hrd.2.2.2 r q0 (by omega)
      have dr := hd r q0 hr
      refine sX11_rightOf_154 ?_
      rw [f5' 139 (by decide), f5' 159 (by decide), f5' 160 (by decide), f5' 161 (by decide), i2, r5, jw_id (x := 8 * k) (by omega) (by omega), jw_id (x := 8 * k + r) (by omega) (by omega), rd.1, rd.2, jw_id (x := r + 1) (by omega) (by omega)]
      refine ⟨by omega, by omega, fun z => absurd z (by omega), fun _ => ⟨by omega, by omega, by omega, by omega, c_isHeld (x := vX V c) (vRd_fr hrd (fun p hp => f5' p (by simp only [List.mem_cons, List.not_mem_nil, or_false] at hp ⊢; omega))) dr.1 dr.2.1 dr.2.2.1 dr.2.2.2 (fun i h0 h1 => by rw [f5 192 (by decide)]; exact hx4 i h0 h1) (fun m6 f6 => ⟨fun z => ?_, fun z => ?_⟩)⟩⟩
      · have hn : ¬ heldB V (vX V c) (V 20 r) (V 21 r) = true := by
          intro y
          rw [if_pos y] at z
          exact absurd z (by decide)
        refine K m6 ⟨by omega, by omega, fr_tr f5 f6, ?_⟩
        rw [e, nx, if_neg hn]
      · have hn : heldB V (vX V c) (V 20 r) (V 21 r) = true := by
          apply Classical.byContradiction
          intro y
          rw [if_neg y] at z
          exact z rfl
        have hq := hQ m6 (fr_tr f5' (fr_mono f6 (by simp)))
        unfold vRgt at hq
        rw [e, nx, if_pos hn, if_neg (by omega)] at hq
        exact hq
    · rintro r m5 hr ⟨q0, q1, f5, e⟩
      obtain rfl : r = V 0 4 := by omega
      have f5' : fr [192, 193] m m5 := fr_tr f4 (fr_mono f5 (by simp))
      refine sX11_rightOf_154 ?_
      rw [f5' 139 (by decide), f5' 159 (by decide), i2, r5]
      refine ⟨by omega, by omega, fun _ => ?_, fun z => absurd (Int.le_refl _) z⟩
      have hq := hQ m5 f5'
      unfold vRgt at hq
      rw [Int.sub_self] at e
      rw [e] at hq
      exact hq
  refine ⟨fc.1, by omega, by omega, by omega, fun z => ?_, fun z => ?_⟩
  · have : vSP V c = -1 := by unfold vSP; rw [if_neg (by omega)]
    rw [this] at go
    exact ⟨fc.1, by omega, fc.1, by omega, go⟩
  · have : vSP V c = V 6 (V 12 (V 15 c)) := by unfold vSP; rw [if_pos (by omega)]
    rw [this] at go
    rw [jw_id (x := 3 * k) (by omega) (by omega), jw_id (x := 3 * k + V 12 (V 15 c)) (by omega) (by omega), (w2 _ h12 (by omega)).1]
    exact ⟨by omega, by omega, fc.1, by omega, fc.1, by omega, go⟩
theorem c_stopOfR {V m0 m : jM} {Q : Int → jM → Prop} {k c : Int} (hf : vKf V) (ht : vKt V) (hd : vKd V) (hI : lI V m0 k 3 m) (hrf : vRf V m) (hrt : vRt V k m) (hrd : vRd V k m) (c0 : 0 ≤ c) (c1 : c < V 0 7) (hQ : ∀ m', fr [192, 193] m m' → Q (if vStp V c = -1 then -2 else vStp V c) m') : ML iX11_stopOf [(2, 139), (0, c), (0, V 0 5), (0, V 0 6)] m Q := by
  have tk := hf.1
  have hN := ht.1
  have w9 := ht.2.2.2.2 2 (by decide) (by decide)
  obtain ⟨i1, i2, i3, i4⟩ := id hI
  obtain ⟨⟨k0, k1, r1, r2, r3, r4, r5⟩, w1, w2, w3, w4⟩ := id hrt
  have fc := hf.2.2 c c0 c1
  have ec := hrf.2.2.1 c c0 c1
  have ef := hrf.2.1 _ fc.1 fc.2.1
  have hm := vHome_in hf c0 c1
  have sp := vSP_in ht hf c0 c1
  have rg := frS_in ht (vX V c)
  have hrg : frS V (vX V c) = vRgt V c := rfl
  refine sX11_stopOf ?_
  rw [ec, i2, r3, ef.2.2.1]
  refine ⟨c0, by omega, fc.1, by omega, by omega, by omega, fun z => ?_, fun z => c_rightOfR hf ht hd hI hrf hrt hrd c0 c1 (fun m1 f1 => ⟨fun z2 => ?_, fun z2 => ?_⟩)⟩
  · have h1 : vStp V c = -1 := by
      unfold vStp
      rw [if_pos (Or.inr (by unfold vSP; rw [if_neg (by omega)]))]
    have hq := hQ m fr_rf
    rw [if_pos h1] at hq
    exact hq
  · have hne : vRgt V c ≠ -1 := by
      intro y
      rw [if_pos y] at z2
      exact absurd z2 (by decide)
    have hst : vStp V c = vNear V (vHome V c) := by
      unfold vStp
      rw [if_neg]
      rintro (y | y)
      · exact hne y
      · omega
    refine c_homeR hf (vRf_fr hrf (by rw [f1 139 (by decide)]) (by rw [f1 139 (by decide)]) (fun p hp => f1 p (by simp only [List.mem_cons, List.not_mem_nil, or_false] at hp ⊢; omega))) c0 c1 ?_
    have key := lup2 (n := V 0 3) (I := fun s (b : Int) (l : Int) => 0 ≤ s ∧ s ≤ V 0 3 ∧ (((nsL V (vHome V c) s.toNat).1 = -1 ∧ b = -2) ∨ (0 ≤ b ∧ b = (nsL V (vHome V c) s.toNat).1 ∧ l = (nsL V (vHome V c) s.toNat).2))) (G := fun s b l => GL iX11_stopOf m1 55 [(2, 139), (9, 0), (9, 0), (9, 0), (0, vHome V c), (0, b), (0, l), (0, s), (9, 0)] [] Q) ?_ ?_ 0 (-2) 0 ⟨by decide, by omega, Or.inl ⟨rfl, rfl⟩⟩
    · exact key
    · rintro s b l hs ⟨s0, s1, hst2⟩ K
      have hin := nsL_in V (vHome V c) s.toNat
      have nx : nsL V (vHome V c) (s + 1).toNat = if vD V 1 (vHome V c) (V 8 s) ≠ -1 ∧ vD V 1 (vHome V c) (V 8 s) < (nsL V (vHome V c) s.toNat).2 then (s, vD V 1 (vHome V c) (V 8 s)) else nsL V (vHome V c) s.toNat := by
        rw [show (s + 1).toNat = s.toNat + 1 by omega]
        simp only [nsL]
        rw [Int.toNat_of_nonneg s0]
      have s8 := ht.2.2.2.1 s s0 hs
      have bd := vD_ge ht 1 (vHome V c) (V 8 s)
      have hv : m1 191 (lx 1 (vHome V c) (V 8 s)) = vD V 1 (vHome V c) (V 8 s) := by
        rw [f1 191 (by decide)]
        exact i4 1 (by decide) (by decide) _ _ hm.1 hm.2 s8.1 (by omega)
      refine sX11_stopOf_55 ?_
      rw [f1 139 (by decide), f1 157 (by decide), f1 158 (by decide), i2, r4, jw_id (x := 6 * k) (by omega) (by omega), jw_id (x := 6 * k + s) (by omega) (by omega), w3 s s0 (by omega), jw_id (x := s + 1) (by omega) (by omega)]
      refine ⟨by omega, by omega, fun y => absurd y (by omega), fun _ => ⟨by omega, by omega, c_leastOf (by decide) (by decide) hm.1 hm.2 s8.1 (by omega) ?_⟩⟩
      rw [hv, f1 139 (by decide), f1 146 (by decide), i2, jw_id (x := 7 * k) (by omega) (by omega), jw_id (x := 7 * k + 2) (by omega) (by omega), w4 2 (by decide) (by decide)]
      generalize vD V 1 (vHome V c) (V 8 s) = d at *
      generalize hnl : nsL V (vHome V c) s.toNat = nl at *
      have no : ¬ (d ≠ -1 ∧ d < nl.2) → GL iX11_stopOf m1 55 [(2, 139), (9, 0), (9, 0), (9, 0), (0, vHome V c), (0, b), (0, l), (0, s + 1), (9, 0)] [] Q := by
        intro y
        refine K _ _ ⟨by omega, by omega, ?_⟩
        rw [nx, if_neg y]
        exact hst2
      have yes : (d ≠ -1 ∧ d < nl.2) → GL iX11_stopOf m1 55 [(2, 139), (9, 0), (9, 0), (9, 0), (0, vHome V c), (0, s), (0, d), (0, s + 1), (9, 0)] [] Q := by
        intro y
        refine K _ _ ⟨by omega, by omega, ?_⟩
        rw [nx, if_pos y]
        exact Or.inr ⟨s0, rfl, rfl⟩
      refine ⟨fun y => no (by omega), fun y => ⟨by omega, by omega, fun y2 => no (by omega), fun y2 => ⟨fun y3 => yes (by omega), fun y3 => ⟨fun y4 => yes (by omega), fun y4 => no (by omega)⟩⟩⟩⟩
    · rintro s b l hs ⟨s0, s1, hst2⟩
      obtain rfl : s = V 0 3 := by omega
      refine sX11_stopOf_55 ?_
      rw [f1 139 (by decide), f1 157 (by decide), i2, r4]
      refine ⟨by omega, by omega, fun _ => ?_, fun y => absurd (Int.le_refl _) y⟩
      have hq := hQ m1 f1
      rw [hst] at hq
      unfold vNear at hq
      rcases hst2 with ⟨h1, h2⟩ | ⟨h1, h2, h3⟩
      · rw [if_pos h1] at hq
        rw [h2]
        exact hq
      · rw [← h2, if_neg (by omega)] at hq
        exact hq
  · have h1 : vRgt V c = -1 := by
      apply Classical.byContradiction
      intro y
      rw [if_neg y] at z2
      omega
    have h2 : vStp V c = -1 := by
      unfold vStp
      rw [if_pos (Or.inl h1)]
    have hq := hQ m1 f1
    rw [if_pos h2] at hq
    exact hq

/-! the texts, and a view turned to one -/
theorem vw_row {m : jM} {k day n p : Int} (h : p ≠ 0 ∧ (p < 10 ∨ 15 < p)) : vw m k day n p = vw m k 0 0 p := by
  have g : p ≠ 10 ∧ p ≠ 11 ∧ p ≠ 12 ∧ p ≠ 13 ∧ p ≠ 14 ∧ p ≠ 15 := by omega
  simp only [vw, h.1, g.1, g.2.1, g.2.2.1, g.2.2.2.1, g.2.2.2.2.1, g.2.2.2.2.2, if_false]
theorem vw_0 {m : jM} {k day n j : Int} (h : j ≠ 5 ∧ j ≠ 6 ∧ j ≠ 7) : vw m k day n 0 j = vw m k 0 0 0 j := by
  simp [vw, h.1, h.2.1, h.2.2]
theorem vKt_vw {m : jM} {k day n : Int} (h : vKt (vw m k 0 0)) : vKt (vw m k day n) := by
  unfold vKt at *
  rw [vw_0 (j := 0) (by decide), vw_0 (j := 1) (by decide), vw_0 (j := 2) (by decide), vw_0 (j := 3) (by decide), vw_0 (j := 4) (by decide), vw_row (p := 1) (by decide), vw_row (p := 2) (by decide), vw_row (p := 3) (by decide), vw_row (p := 4) (by decide), vw_row (p := 5) (by decide), vw_row (p := 6) (by decide), vw_row (p := 7) (by decide), vw_row (p := 8) (by decide), vw_row (p := 9) (by decide)]
  exact h
theorem vCt_vw {m m1 : jM} {k day n t : Int} (h : vCt (vw m k 0 0) t m1) : vCt (vw m k day n) t m1 := by
  unfold vCt at *
  rw [vw_0 (j := 0) (by decide), vw_0 (j := 1) (by decide), vw_0 (j := 2) (by decide), vw_0 (j := 3) (by decide), vw_0 (j := 4) (by decide), vw_row (p := 1) (by decide), vw_row (p := 2) (by decide), vw_row (p := 3) (by decide), vw_row (p := 4) (by decide), vw_row (p := 5) (by decide), vw_row (p := 6) (by decide), vw_row (p := 7) (by decide), vw_row (p := 8) (by decide), vw_row (p := 9) (by decide)]
  exact h
theorem vKd_vw {m : jM} {k day n : Int} (h : vKd (vw m k 0 0)) : vKd (vw m k day n) := by
  unfold vKd litK at *
  rw [vw_0 (j := 4) (by decide), vw_row (p := 20) (by decide), vw_row (p := 21) (by decide), vw_row (p := 22) (by decide), vw_row (p := 23) (by decide), vw_row (p := 24) (by decide), vw_row (p := 26) (by decide), vw_row (p := 27) (by decide), vw_row (p := 28) (by decide)]
  exact h
theorem heldB_cg {V W : jM} (h : ∀ p, 20 ≤ p → p < 30 → V p = W p) (x : Int → Int) (a b : Int) : heldB V x a b = heldB W x a b := by
  have hl : ∀ i, litB V x i = litB W x i := by
    intro i
    unfold litB rVal
    rw [h 22 (by decide) (by decide), h 23 (by decide) (by decide), h 24 (by decide) (by decide), h 25 (by decide) (by decide), h 26 (by decide) (by decide), h 27 (by decide) (by decide), h 28 (by decide) (by decide)]
  have hh : ∀ j, hd V x a j = hd W x a j := by
    intro j
    induction j with
    | zero => rfl
    | succ j ih =>
      simp only [hd]
      rw [ih, hl, h 29 (by decide) (by decide)]
  unfold heldB
  rw [hh]
theorem cdR_vw {m m1 : jM} {k day n t : Int} (h : cdR (vw m k 0 0) t m1) : cdR (vw m k day n) t m1 := by
  intro r r0 r1
  rw [vw_0 (j := 4) (by decide)] at r1
  refine ⟨(h r r0 r1).1, fun x => ?_⟩
  rw [heldB_cg (W := vw m k 0 0) (fun p p0 p1 => vw_row (by omega)), vw_row (p := 20) (by decide), vw_row (p := 21) (by decide)]
  exact (h r r0 r1).2 x
theorem vRt_vw {m : jM} {k day n : Int} (k0 : 0 ≤ k) (k1 : k < 3) : vRt (vw m k day n) k m := by
  refine ⟨⟨k0, k1, rfl, rfl, rfl, rfl, rfl⟩, fun i h0 h1 => ⟨?_, ?_, ?_, ?_, ?_⟩, fun i h0 h1 => ⟨?_, ?_⟩, fun i h0 h1 => ?_, fun i h0 h1 => ?_⟩
  · exact (cut_in (f := fun i => m 149 (24 * k + i)) h0 h1).symm
  · exact (cut_in (f := fun i => m 150 (24 * k + i)) h0 h1).symm
  · exact (cut_in (f := fun i => m 151 (24 * k + i)) h0 h1).symm
  · exact (cut_in (f := fun i => m 152 (24 * k + i)) h0 h1).symm
  · exact (cut_in (f := fun i => m 153 (24 * k + i)) h0 h1).symm
  · exact (cut_in (f := fun i => m 155 (3 * k + i)) h0 h1).symm
  · exact (cut_in (f := fun i => m 156 (3 * k + i)) h0 h1).symm
  · exact (cut_in (f := fun i => m 158 (6 * k + i)) h0 h1).symm
  · exact (cut_in (f := fun i => m 146 (7 * k + i)) h0 h1).symm
theorem vRd_vw {m : jM} {k day n : Int} (k0 : 0 ≤ k) (k1 : k < 3) : vRd (vw m k day n) k m := by
  refine ⟨⟨k0, k1⟩, fun i h0 h1 => ⟨?_, ?_⟩, fun i h0 h1 => ⟨?_, ?_, ?_, ?_, ?_, ?_⟩, fun i h0 h1 => ⟨?_, ?_⟩⟩
  · exact (cut_in (f := fun i => m 163 (500 * k + i)) h0 h1).symm
  · exact (cut_in (f := fun i => m 164 (500 * k + i)) h0 h1).symm
  · exact (cut_in (f := fun i => m 166 (200 * k + i)) h0 h1).symm
  · exact (cut_in (f := fun i => m 167 (200 * k + i)) h0 h1).symm
  · rw [show vw m k day n 26 i = m 168 (200 * k + i) - 500 * k from cut_in (f := fun i => m 168 (200 * k + i) - 500 * k) h0 h1]
    omega
  · rw [show vw m k day n 27 i = m 169 (200 * k + i) - 500 * k from cut_in (f := fun i => m 169 (200 * k + i) - 500 * k) h0 h1]
    omega
  · rw [show vw m k day n 28 i = m 170 (200 * k + i) - 500 * k from cut_in (f := fun i => m 170 (200 * k + i) - 500 * k) h0 h1]
    omega
  · exact (cut_in (f := fun i => m 171 (200 * k + i)) h0 h1).symm
  · rw [show vw m k day n 20 i = m 160 (8 * k + i) - 200 * k from cut_in (f := fun i => m 160 (8 * k + i) - 200 * k) h0 h1]
    omega
  · rw [show vw m k day n 21 i = m 161 (8 * k + i) - 200 * k from cut_in (f := fun i => m 161 (8 * k + i) - 200 * k) h0 h1]
    omega
/-- the texts of both are alike -/
def txInv (m : jM) : Prop := (0 ≤ m 139 12 ∧ m 139 12 ≤ 3 ∧ m 0 10 = m 139 12) ∧ ∀ k, 0 ≤ k → k < m 139 12 → m (27 + 12 * k) 0 = m 145 k ∧ vKt (vw m k 0 0) ∧ vKd (vw m k 0 0) ∧ vCt (vw m k 0 0) (27 + 12 * k) m ∧ cdR (vw m k 0 0) (27 + 12 * k) m
/-- the class's view: never turned, or turned to what it says -/
def vwInv (m : jM) : Prop := (m 11 9 = -1 ∧ m 11 5 = 0) ∨ (1 ≤ m 11 5 ∧ vwG (vw m (m 11 9) (m 11 3) (m 11 4)) (m 11 9) m)
abbrev tnUp : List Int := [23, 24]
abbrev tnUf : List (Int × Int) := [(11, 2), (11, 3), (11, 4), (11, 5), (11, 6), (11, 9), (11, 13)]
theorem c_turn {m : jM} {Q : Int → jM → Prop} {k day n : Int} (hfc : fcInv m) (hx : txInv m) (hw : vwInv m) (k0 : 0 ≤ k) (k1 : k < m 139 12) (d0 : 0 ≤ day) (d1 : day < 365) (n0 : 0 ≤ n) (n1 : n ≤ m 139 44) (hs0 : 0 ≤ m 11 5) (hs : m 11 5 < 2147483647) (hQ : ∀ m', frx tnUp tnUf m m' → vwG (vw m k day n) k m' → 1 ≤ m' 11 5 → (m' = m ∨ m' 11 5 = m 11 5 + 1) → Q 0 m') : ML iX9_turn [(2, 11), (0, k), (0, day), (0, n)] m Q := by
  have xt := hx.1
  have xk := hx.2 k k0 k1
  obtain ⟨vk, vr, vc⟩ := vw_f hfc (k := k) d0 d1 n0 n1
  have go : GL iX9_turn m 37 [(2, 11), (0, k), (0, day), (0, n)] [] Q := by
    refine sX9_turn_37 ⟨k0, by omega, ?_⟩
    rw [jw_id (x := m 11 5 + 1) (by omega) (by omega)]
    generalize hm1 : jup (jup (jup (jup (jup m 11 2 (27 + 12 * k)) 11 9 k) 11 3 day) 11 4 n) 11 5 (m 11 5 + 1) = m1
    have f1 : frx tnUp tnUf m m1 := by
      rw [← hm1]
      exact frx_upF (frx_upF (frx_upF (frx_upF (frx_upF frx_rf (by decide)) (by decide)) (by decide)) (by decide)) (by decide)
    refine c_childrenKnown (fcInv_cg (agr_of f1 (by decide)) hfc) ?_
    have hkn : kn m1 n = kn m n := by
      unfold kn
      rw [frx_row f1 179 (by decide) (by decide), frx_row f1 139 (by decide) (by decide)]
    rw [hkn]
    refine c_fill (n := 3) at_24 (by decide) (fun m i x h => ny_24 h) ?_
    generalize hm2 : jfill (jup (jup m1 11 6 (kn m n)) 11 13 0) 24 ((3 : Nat) : Int) 0 = m2
    have f2 : frx tnUp tnUf m m2 := by
      rw [← hm2]
      exact frx_fill (frx_upF (frx_upF f1 (by decide)) (by decide)) (by decide)
    have e11 : ∀ j, m2 11 j = jup (jup m1 11 6 (kn m n)) 11 13 0 11 j := fun j => by rw [← hm2, jfill_ne (by decide)]
    have q2 : m2 11 2 = 27 + 12 * k := by rw [e11, ← hm1]; rfl
    have q9 : m2 11 9 = k := by rw [e11, ← hm1]; rfl
    have q3 : m2 11 3 = day := by rw [e11, ← hm1]; rfl
    have q4 : m2 11 4 = n := by rw [e11, ← hm1]; rfl
    have q5 : m2 11 5 = m 11 5 + 1 := by rw [e11, ← hm1]; rfl
    have q6 : m2 11 6 = kn m n := by rw [e11]; rfl
    have q13 : m2 11 13 = 0 := by rw [e11]; rfl
    have rw2 : ∀ p, p ≠ 11 → p ≠ 23 → p ≠ 24 → m2 p = m p := fun p h0 h1 h2 => frx_row f2 p (by simp [h1, h2]) (by intro q hq; simp only [List.mem_cons, List.not_mem_nil, or_false] at hq; rcases hq with rfl | rfl | rfl | rfl | rfl | rfl | rfl <;> exact fun z => h0 z.symm)
    have ct2 : vCt (vw m k day n) (27 + 12 * k) m2 := vCt_fr (vCt_vw xk.2.2.2.1) (fun j j0 j1 => rw2 _ (by omega) (by omega) (by omega))
    have cf2 : vCf (vw m k day n) m2 := vCf_fr vc (fun p hp => rw2 p (by rintro rfl; simp at hp) (by rintro rfl; simp at hp) (by rintro rfl; simp at hp))
    refine c_usable vk (vKt_vw xk.2.1) ct2 cf2 ⟨q2, q3, q4⟩ (fun m3 f3 u3 => ?_)
    have f3' : frx tnUp tnUf m m3 := frx_tr f2 (frx_mono (frx_fr (K := []) f3) (by simp) (by simp))
    have r3 : ∀ p, p ≠ 23 → m3 p = m2 p := fun p h => f3 p (by simp [h])
    have e3 := r3 11 (by decide)
    refine hQ m3 f3' ⟨by rw [e3]; exact q9, ⟨⟨by rw [e3]; exact q2, by rw [e3]; exact q3, by rw [e3]; exact q4, by rw [e3]; exact q6⟩, vCt_fr ct2 (fun j j0 j1 => r3 _ (by omega)), vCf_fr cf2 (fun p hp => r3 p (by rintro rfl; simp at hp)), u3, fun what w0 w1 => ?_⟩, ?_, ?_⟩ (by rw [e3, q5]; omega) (Or.inr (by rw [e3]; exact q5))
    · have : m3 24 what = 0 := by
        rw [r3 24 (by decide), ← hm2]
        exact jfill_at w0 w1
      rw [this]
      refine ⟨by decide, by decide, fun a a0 a1 h => ?_⟩
      rw [tb_zero] at h
      exact absurd h (by decide)
    · exact cdR_fr (cdR_vw xk.2.2.2.2) (by rw [r3 _ (by omega), rw2 _ (by omega) (by omega) (by omega)]) (by rw [r3 _ (by omega), rw2 _ (by omega) (by omega) (by omega)])
    · unfold vwJ
      rw [e3, q13]
      refine ⟨by decide, by decide, fun c c0 c1 h => ?_⟩
      rw [tb_zero] at h
      exact absurd h (by decide)
  refine sX9_turn (sX10_within ⟨fun z => absurd k0 (by omega), fun _ => ⟨fun z => absurd z (by omega), fun _ => ⟨fun z => absurd z (by decide), fun _ => ⟨fun _ => go, fun z1 => ⟨fun _ => go, fun z2 => ⟨fun _ => go, fun z3 => ?_⟩⟩⟩⟩⟩⟩)
  have y1 : m 11 9 = k := by omega
  have y2 : m 11 3 = day := by omega
  have y3 : m 11 4 = n := by omega
  rcases hw with ⟨h, -⟩ | ⟨h0, h⟩
  · omega
  · rw [y1, y2, y3] at h
    exact hQ m frx_rf h h0 (Or.inl rfl)

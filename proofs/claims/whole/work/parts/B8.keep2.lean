/-! what every call keeps -/
def nx (m m2 : jM) : Prop := allI m2 ∧ m2 11 5 ≤ m 11 5 + 10000
theorem qI_of {m : jM} (h : allI m) (hs : m 11 5 ≤ 20000000) : qI m := ⟨h.1.2.1, h.2.1.1, h.2.1.2.1, hs⟩
theorem nx_F {m m2 : jM} {K : Int} (h : allI m) (q : qOutF K m m2) (k1 : K ≤ 10000) : nx m m2 := by
  obtain ⟨⟨t, f, s, e, c⟩, ⟨x, v, p, l⟩, w, d⟩ := h
  have ha := q.2.1
  refine ⟨⟨⟨tpInv_cg (agr_sub ha (by decide) (by decide)) t, fcInv_cg (agr_sub ha (by decide) (by decide)) f, snInv_cg (agr_sub ha (by decide) (by decide)) s, teInv_cg (agr_sub ha (by decide) (by decide)) e, crInv_cg (agr_sub ha (by decide) (by decide)) c⟩, ⟨kp_tx ha x, q.1, q.2.2.2.1, q.2.2.2.2⟩, ?_, ?_⟩, ?_⟩
  · unfold wkI at w ⊢
    rw [agr_row ha 7 (by decide)]
    exact w
  · rw [agr_at ha 0 11 (by decide), agr_at ha 139 9 (by decide)]
    exact d
  · rcases q.2.2.1 with z | z <;> omega
theorem nx_P {m m2 : jM} (h : allI m) (q : qOutP 1 m m2) : nx m m2 := nx_F h (qOutP_F h.2.1.2.2.2 q) (by decide)
theorem nx_Q {m m2 : jM} (h : allI m) (q : qOut 1 m m2) : nx m m2 := nx_P h (qOut_P h.2.1.2.2.1 q)
theorem nx_rf {m m2 : jM} (h : allI m) (e : m2 = m) : nx m m2 := by
  subst e
  exact ⟨h, by omega⟩
theorem vwR_K {m m2 : jM} (h : vwR m) (hf2 : fcInv m2) (h11 : m2 11 = m 11) (hr : ∀ p ∈ [(21 : Int), 22, 23, 24, 25], m2 p = m p) (hx : m 139 12 ≤ m2 139 12) (hfa : m 139 44 ≤ m2 139 44) (hV : ∀ k day n, 0 ≤ k → k < m 139 12 → 0 ≤ n → n ≤ m 139 44 → vw m2 k day n = vw m k day n) (ht : ∀ k j, 0 ≤ k → k < m 139 12 → 0 ≤ j → j < 11 → m2 (27 + 12 * k + j) = m (27 + 12 * k + j)) : vwR m2 := by
  unfold vwR at *
  rw [h11]
  rcases h with a | a
  · exact Or.inl a
  · right
    obtain ⟨a1, a2, a3⟩ := a
    refine ⟨a1, by omega, ?_⟩
    have e := hV (m 11 9) (m 11 3) (m 11 4) a2.1 a2.2.1 a2.2.2.2.2.1 a2.2.2.2.2.2
    have f := (vw_f hf2 (k := m 11 9) (day := m 11 3) (n := m 11 4) a2.2.2.1 a2.2.2.2.1 a2.2.2.2.2.1 (by omega)).2.2
    rw [e] at f ⊢
    exact vwG_fr a3 (fun i _ => by rw [h11]) hr (fun j j0 j1 => ht _ j a2.1 a2.2.1 j0 j1) f
theorem vc_K {m m2 : jM} (h : vwR m) (hs : 1 ≤ m 11 5) (h11 : m2 11 = m 11) (hV : ∀ k day n, 0 ≤ k → k < m 139 12 → 0 ≤ n → n ≤ m 139 44 → vw m2 k day n = vw m k day n) : vc m2 = vc m := by
  unfold vc
  rw [h11]
  rcases h with a | a
  · omega
  · exact hV _ _ _ a.2.1.1 a.2.1.2.1 a.2.1.2.2.2.2.1 a.2.1.2.2.2.2.2
theorem plI_K {m m2 : jM} (h : plI m) (hR : vwR m) (h11 : m2 11 = m 11) (hr : ∀ p, 64 ≤ p → p ≤ 119 → m2 p = m p) (hV : ∀ k day n, 0 ≤ k → k < m 139 12 → 0 ≤ n → n ≤ m 139 44 → vw m2 k day n = vw m k day n) : plI m2 := by
  intro s s0 s1
  obtain ⟨a, b, c, d⟩ := h s s0 s1
  have r : ∀ q, 64 + 14 * s ≤ q → q ≤ 64 + 14 * s + 13 → m2 q = m q := fun q q0 q1 => hr q (by omega) (by omega)
  have e0 : m2 (64 + 14 * s) = m (64 + 14 * s) := r _ (by omega) (by omega)
  refine ⟨pZ_cg a r, by rw [e0]; exact b, by rw [e0, h11]; exact c, fun z z1 => ?_⟩
  rw [e0, h11] at z
  rw [h11] at z1
  rw [vc_K hR z1 h11 hV]
  have := d z z1
  exact ⟨this.1, cPlan_cg this.2 r⟩
theorem flI_K {m m2 : jM} (h : flI m) (hR : vwR m) (h11 : m2 11 = m 11) (hr : ∀ p, 64 ≤ p → p ≤ 119 → m2 p = m p) (hV : ∀ k day n, 0 ≤ k → k < m 139 12 → 0 ≤ n → n ≤ m 139 44 → vw m2 k day n = vw m k day n) : flI m2 := by
  obtain ⟨a, b, c⟩ := h
  have r : ∀ p, 106 ≤ p → p ≤ 119 → m2 p = m p := fun p p0 p1 => hr p (by omega) p1
  have e := r 106 (by decide) (by decide)
  refine ⟨by rw [e]; exact a, by rw [e, h11]; exact b, fun z z1 => ?_⟩
  rw [e, h11] at z
  rw [h11] at z1
  have q := c z z1
  rw [vc_K hR z1 h11 hV]
  refine ⟨q.1, flD_fr q.2.1 (by rw [e]) (by rw [e]) (r 108 (by decide) (by decide)) (r 114 (by decide) (by decide)), ?_⟩
  rw [e]
  rcases q.2.2 with w | w
  · exact Or.inl w
  · right
    unfold flS at w ⊢
    rw [e, r 107 (by decide) (by decide)]
    exact w
theorem nx_K {m m2 : jM} (h : allI m) (t2 : tpInv m2) (f2 : fcInv m2) (s2 : snInv m2) (e2 : teInv m2) (c2 : crInv m2) (x2 : txInv m2) (h7 : m2 7 = m 7) (hp : m2 0 11 = m2 139 9) (h11 : m2 11 = m 11) (hr : ∀ p ∈ [(21 : Int), 22, 23, 24, 25], m2 p = m p) (h64 : ∀ p, 64 ≤ p → p ≤ 119 → m2 p = m p) (hx : m 139 12 ≤ m2 139 12) (hfa : m 139 44 ≤ m2 139 44) (hV : ∀ k day n, 0 ≤ k → k < m 139 12 → 0 ≤ n → n ≤ m 139 44 → vw m2 k day n = vw m k day n) (ht : ∀ k j, 0 ≤ k → k < m 139 12 → 0 ≤ j → j < 11 → m2 (27 + 12 * k + j) = m (27 + 12 * k + j)) : nx m m2 := by
  obtain ⟨-, ⟨-, v, p, l⟩, w, -⟩ := h
  refine ⟨⟨⟨t2, f2, s2, e2, c2⟩, ⟨x2, vwR_K v f2 h11 hr hx hfa hV ht, plI_K p v h11 h64 hV, flI_K l v h11 h64 hV⟩, ?_, hp⟩, by rw [h11]; omega⟩
  unfold wkI at w ⊢
  rw [h7]
  exact w
/-- calls of drivers, bids, snow, bytes -/
abbrev aD : List Int := [7, 11, 21, 22, 23, 24, 25, 13, 14, 15, 16, 17, 18, 19, 20, 174, 175, 176, 177, 178, 179, 145, 147, 148, 154, 157, 159, 149, 150, 151, 152, 153, 155, 156, 158, 146, 160, 161, 163, 164, 166, 167, 168, 169, 170, 171, 27, 28, 29, 30, 31, 32, 33, 34, 35, 36, 37, 39, 40, 41, 42, 43, 44, 45, 46, 47, 48, 49, 51, 52, 53, 54, 55, 56, 57, 58, 59, 60, 61, 64, 65, 66, 67, 68, 69, 70, 71, 72, 73, 74, 75, 76, 77, 78, 79, 80, 81, 82, 83, 84, 85, 86, 87, 88, 89, 90, 91, 92, 93, 94, 95, 96, 97, 98, 99, 100, 101, 102, 103, 104, 105, 106, 107, 108, 109, 110, 111, 112, 113, 114, 115, 116, 117, 118, 119]
abbrev aF : List (Int × Int) := [(139, 44), (139, 50), (139, 12), (139, 9), (0, 10), (0, 11)]
theorem nx_a {m m2 : jM} (h : allI m) (t2 : tpInv m2) (s2 : snInv m2) (e2 : teInv m2) (c2 : crInv m2) (ha : agr aD aF m m2) : nx m m2 := by
  have hv : ∀ k day n, vw m2 k day n = vw m k day n := fun k day n => vw_cg (agr_sub ha (by decide) (by decide)) k day n
  have hx := h.2.1.1
  have hs : txSm m m2 := by
    intro p p0 p1 p2 p3 p4
    refine agr_row ha p ?_
    simp only [List.mem_cons, List.not_mem_nil, or_false]
    omega
  refine nx_K h t2 (fcInv_cg (agr_sub ha (by decide) (by decide)) h.1.2.1) s2 e2 c2 (txInv_fr hx (agr_at ha 139 12 (by decide)) (agr_at ha 0 10 (by decide)) (agr_row ha 145 (by decide)) (fun k => hv k 0 0) hs) (agr_row ha 7 (by decide)) ?_ (agr_row ha 11 (by decide)) (fun p hp => agr_row ha p ?_) (fun p p0 p1 => agr_row ha p ?_) (by rw [agr_at ha 139 12 (by decide)]; exact Int.le_refl _) (by rw [agr_at ha 139 44 (by decide)]; exact Int.le_refl _) (fun k day n _ _ _ _ => hv k day n) (fun k j k0 k1 j0 j1 => txSm_at hs k0 (by have := hx.1; omega) j0 j1)
  · rw [agr_at ha 0 11 (by decide), agr_at ha 139 9 (by decide)]
    exact h.2.2.2
  · simp only [List.mem_cons, List.not_mem_nil, or_false] at hp ⊢
    omega
  · simp only [List.mem_cons, List.not_mem_nil, or_false]
    omega
/-- calls that tell facts -/
theorem nx_b {m m2 : jM} (h : allI m) (hb : fcIn m m2) (hf : frx fcUp fcUf m m2) : nx m m2 := by
  have hx := h.2.1.1
  have f := h.1.2.1
  have hd : agr vwDt [] m m2 := agr_of hf (by decide)
  have r : ∀ p, p ∉ fcUp → p ≠ 13 → p ≠ 139 → m2 p = m p := fun p h1 h2 h3 => frx_row hf p h1 (fun q hq => by
    simp only [List.mem_cons, List.not_mem_nil, or_false] at hq
    rcases hq with rfl | rfl | rfl | rfl <;> simp only <;> omega)
  have g : ∀ i, i ≠ 44 → i ≠ 50 → m2 139 i = m 139 i := fun i h1 h2 => hf 139 i (by decide) (fun w => by
    simp only [List.mem_cons, List.not_mem_nil, or_false, Prod.mk.injEq] at w
    omega)
  have hV : ∀ k day n, n ≤ m 139 44 → vw m2 k day n = vw m k day n := fun k day n n1 => vw_be f hb.1 hb.2 hd n1
  have hs : txSm m m2 := fun p p0 p1 _ _ _ => r p (by simp only [List.mem_cons, List.not_mem_nil, or_false]; omega) (by omega) (by omega)
  have f0 := f.1.1.1
  refine nx_K h (tpInv_cg (agr_of hf (by decide)) h.1.1) hb.1 (snInv_cg (agr_of hf (by decide)) h.1.2.2.1) (teInv_cg (agr_of hf (by decide)) h.1.2.2.2.1) (crInv_cg (agr_of hf (by decide)) h.1.2.2.2.2) (txInv_fr hx (g 12 (by decide) (by decide)) (by rw [r 0 (by decide) (by decide) (by decide)]) (r 145 (by decide) (by decide) (by decide)) (fun k => hV k 0 0 f0) hs) (r 7 (by decide) (by decide) (by decide)) ?_ (r 11 (by decide) (by decide) (by decide)) (fun p hp => ?_) (fun p p0 p1 => r p (by simp only [List.mem_cons, List.not_mem_nil, or_false]; omega) (by omega) (by omega)) (by rw [g 12 (by decide) (by decide)]; exact Int.le_refl _) hb.2.1 (fun k day n _ _ _ n1 => hV k day n n1) (fun k j k0 k1 j0 j1 => txSm_at hs k0 (by have := hx.1; omega) j0 j1)
  · rw [r 0 (by decide) (by decide) (by decide), g 9 (by decide) (by decide)]
    exact h.2.2.2
  · simp only [List.mem_cons, List.not_mem_nil, or_false] at hp
    exact r p (by simp only [List.mem_cons, List.not_mem_nil, or_false]; omega) (by omega) (by omega)
/-- read -/
theorem rqN_f {k i : Int} {m m' : jM} (h : rqN k m m') (hi : i = 44 ∨ i = 50 ∨ i = 52 ∨ i = 56 ∨ i = 60) : m' 139 i = m 139 i := h 139 i (Or.inr ⟨by decide, Or.inr (Or.inl ⟨rfl, by omega⟩), fun _ => by omega, by decide⟩)
theorem rqN_agr {k : Int} {m m' : jM} (h : rqN k m m') (k0 : 0 ≤ k) (k2 : k < 3) {D : List Int} {F : List (Int × Int)} (hD : D.all (fun p => decide ((11 ≤ p ∧ p < 27) ∨ (62 < p ∧ p < 139) ∨ (173 < p ∧ p ≠ 189))) = true) (hF : F.all (fun q => decide (q.1 = 139 ∧ (q.2 = 44 ∨ q.2 = 50 ∨ q.2 = 52 ∨ q.2 = 56 ∨ q.2 = 60))) = true) : agr D F m m' := by
  refine ⟨fun p hp => ?_, fun q hq => ?_⟩
  · have c := of_decide_eq_true (List.all_eq_true.mp hD p hp)
    by_cases e : p < 139
    · exact rqN_row h ⟨e, by omega, by omega, by omega, by omega, by omega, by omega, by omega, by omega, by omega, by omega⟩
    · exact rqN_fact h ⟨by omega, by omega⟩
  · have c := of_decide_eq_true (List.all_eq_true.mp hF q hq)
    rw [c.1]
    exact rqN_f h c.2
theorem nx_r {m m2 : jM} (h : allI m) (hb : rdOut m m2) : nx m m2 := by
  rcases hb with e | ⟨k3, hN, a21, a0, hp, x2, hle⟩
  · exact nx_rf h e
  have k0 := h.2.1.1.1.1
  have row : ∀ p, (11 ≤ p ∧ p < 27) ∨ (62 < p ∧ p < 139) ∨ p = 7 → m2 p = m p := fun p c => rqN_row hN ⟨by omega, by omega, by omega, by omega, by omega, by omega, by omega, by omega, by omega, by omega, by omega⟩
  refine nx_K h ⟨a21.trans a0.symm, by rw [a0]; exact Int.le_refl _, by rw [a0]; decide, fun i i0 i1 => by rw [a0] at i1; omega⟩ (fcInv_cg (rqN_agr hN k0 k3 (by decide) (by decide)) h.1.2.1) (snInv_cg (rqN_agr hN k0 k3 (by decide) (by decide)) h.1.2.2.1) (teInv_cg (rqN_agr hN k0 k3 (by decide) (by decide)) h.1.2.2.2.1) (crInv_cg (rqN_agr hN k0 k3 (by decide) (by decide)) h.1.2.2.2.2) x2 (row 7 (by decide)) hp (row 11 (by decide)) (fun p hq => ?_) (fun p p0 p1 => row p (by omega)) hle (by rw [rqN_f hN (by decide)]; exact Int.le_refl _) (fun k day n k0' k1 _ _ => vw_N hN ⟨k0, k3⟩ ⟨k0', by omega⟩ (by omega)) (fun k j k0' k1 j0 j1 => tx_row hN ⟨k0, k3⟩ ⟨k0', by omega⟩ (by omega) j0 j1)
  simp only [List.mem_cons, List.not_mem_nil, or_false] at hq
  exact row p (by omega)

/-! what a view is made of, and what leaves it alone -/
theorem agr_sub {D D' : List Int} {DF DF' : List (Int × Int)} {m m' : jM} (h : agr D DF m m') (hd : D'.all (fun p => D.contains p) = true) (hf : DF'.all (fun q => DF.contains q || D.contains q.1) = true) : agr D' DF' m m' := by
  refine ⟨fun p hp => h.1 p ?_, fun q hq => ?_⟩
  · have := List.all_eq_true.mp hd p hp
    simpa using this
  · have := List.all_eq_true.mp hf q hq
    simp only [Bool.or_eq_true, List.contains_iff_mem] at this
    rcases this with z | z
    · exact h.2 q z
    · rw [h.1 q.1 z]
theorem agr_rf {D : List Int} {DF : List (Int × Int)} {m : jM} : agr D DF m m := ⟨fun _ _ => rfl, fun _ _ => rfl⟩
theorem agr_tr {D : List Int} {DF : List (Int × Int)} {m m1 m2 : jM} (h : agr D DF m m1) (h2 : agr D DF m1 m2) : agr D DF m m2 := ⟨fun p hp => (h2.1 p hp).trans (h.1 p hp), fun q hq => (h2.2 q hq).trans (h.2 q hq)⟩
/-- the reference's rows of texts -/
abbrev vwDt : List Int := [147, 148, 154, 157, 159, 149, 150, 151, 152, 153, 155, 156, 158, 146, 160, 161, 163, 164, 166, 167, 168, 169, 170, 171]
abbrev vwDp : List Int := [147, 148, 154, 157, 159, 149, 150, 151, 152, 153, 155, 156, 158, 146, 160, 161, 163, 164, 166, 167, 168, 169, 170, 171, 174, 175, 176, 177, 178, 179]
theorem vw_cg {m m' : jM} (h : agr vwDp [(139, 50)] m m') (k day n : Int) : vw m' k day n = vw m k day n := by
  unfold vw kn
  rw [agr_at h 139 50 (by decide), agr_row h 147 (by decide), agr_row h 148 (by decide), agr_row h 154 (by decide), agr_row h 157 (by decide), agr_row h 159 (by decide), agr_row h 149 (by decide), agr_row h 150 (by decide), agr_row h 151 (by decide), agr_row h 152 (by decide), agr_row h 153 (by decide), agr_row h 155 (by decide), agr_row h 156 (by decide), agr_row h 158 (by decide), agr_row h 146 (by decide), agr_row h 160 (by decide), agr_row h 161 (by decide), agr_row h 163 (by decide), agr_row h 164 (by decide), agr_row h 166 (by decide), agr_row h 167 (by decide), agr_row h 168 (by decide), agr_row h 169 (by decide), agr_row h 170 (by decide), agr_row h 171 (by decide), agr_row h 174 (by decide), agr_row h 175 (by decide), agr_row h 176 (by decide), agr_row h 177 (by decide), agr_row h 178 (by decide), agr_row h 179 (by decide)]
theorem kn_be {m m' : jM} (h : fcInv m) (h' : fcInv m') (hb : fcBe m m') {n : Int} (n1 : n ≤ m 139 44) : kn m' n = kn m n := by
  have a := kn_nn m n h.1.1.2.2.1
  have a' := kn_nn m' n h'.1.1.2.2.1
  have b1 := hb.2.1
  apply Classical.byContradiction
  intro hne
  by_cases hlt : kn m n < kn m' n
  · have e := (kn_iff h'.1 (n := n) (c := kn m n) a.1 (by omega)).mpr hlt
    by_cases hc : kn m n < m 139 50
    · rw [hb.2.2.2.1 _ a.1 hc] at e
      have := (kn_iff h.1 (n := n) a.1 hc).mp e
      omega
    · have := hb.2.2.2.2 (kn m n) (by omega) (by omega)
      omega
  · have e := (kn_iff h.1 (n := n) (c := kn m' n) a'.1 (by omega)).mpr (by omega)
    rw [← hb.2.2.2.1 _ a'.1 (by omega)] at e
    have := (kn_iff h'.1 (n := n) a'.1 (by omega)).mp e
    omega
/-- facts that come behind alter no view -/
theorem vw_be {m m' : jM} (h : fcInv m) (h' : fcInv m') (hb : fcBe m m') (hr : agr vwDt [] m m') {k day n : Int} (n1 : n ≤ m 139 44) : vw m' k day n = vw m k day n := by
  have hk := kn_be h h' hb n1
  have t := kn_nn m n h.1.1.2.2.1
  have c0 : cut n (m' 174) = cut n (m 174) := cut_cg rfl (fun i h0 h1 => (hb.2.2.1 i h0 (by omega)).1)
  have c1 : cut n (m' 175) = cut n (m 175) := cut_cg rfl (fun i h0 h1 => (hb.2.2.1 i h0 (by omega)).2.1)
  have c2 : cut n (m' 176) = cut n (m 176) := cut_cg rfl (fun i h0 h1 => (hb.2.2.1 i h0 (by omega)).2.2.1)
  have c3 : cut n (m' 177) = cut n (m 177) := cut_cg rfl (fun i h0 h1 => (hb.2.2.1 i h0 (by omega)).2.2.2.1)
  have c4 : cut n (m' 178) = cut n (m 178) := cut_cg rfl (fun i h0 h1 => (hb.2.2.1 i h0 (by omega)).2.2.2.2)
  have c5 : cut (kn m n) (m' 179) = cut (kn m n) (m 179) := cut_cg rfl (fun i h0 h1 => hb.2.2.2.1 i h0 (by omega))
  unfold vw
  rw [hk, c0, c1, c2, c3, c4, c5, agr_row hr 147 (by decide), agr_row hr 148 (by decide), agr_row hr 154 (by decide), agr_row hr 157 (by decide), agr_row hr 159 (by decide), agr_row hr 149 (by decide), agr_row hr 150 (by decide), agr_row hr 151 (by decide), agr_row hr 152 (by decide), agr_row hr 153 (by decide), agr_row hr 155 (by decide), agr_row hr 156 (by decide), agr_row hr 158 (by decide), agr_row hr 146 (by decide), agr_row hr 160 (by decide), agr_row hr 161 (by decide), agr_row hr 163 (by decide), agr_row hr 164 (by decide), agr_row hr 166 (by decide), agr_row hr 167 (by decide), agr_row hr 168 (by decide), agr_row hr 169 (by decide), agr_row hr 170 (by decide), agr_row hr 171 (by decide)]
theorem vCt_fr3 {V m m' : jM} {t : Int} (h : vCt V t m) (hf : ∀ j, 0 ≤ j → j < 11 → m' (t + j) = m (t + j)) : vCt V t m' := by
  have e0 := hf 0 (by decide) (by decide)
  rw [Int.add_zero] at e0
  unfold vCt at *
  rw [e0, hf 1 (by decide) (by decide), hf 2 (by decide) (by decide), hf 3 (by decide) (by decide), hf 4 (by decide) (by decide), hf 5 (by decide) (by decide), hf 6 (by decide) (by decide), hf 7 (by decide) (by decide), hf 10 (by decide) (by decide)]
  exact h
/-- the class's rows of texts are alike but for what holds() puts down -/
def txSm (m m' : jM) : Prop := ∀ p, 27 ≤ p → p < 63 → p ≠ 38 → p ≠ 50 → p ≠ 62 → m' p = m p
theorem txSm_at {m m' : jM} (h : txSm m m') {k j : Int} (k0 : 0 ≤ k) (k1 : k < 3) (j0 : 0 ≤ j) (j1 : j < 11) : m' (27 + 12 * k + j) = m (27 + 12 * k + j) := h _ (by omega) (by omega) (by omega) (by omega) (by omega)
theorem txInv_fr {m m' : jM} (h : txInv m) (h0 : m' 139 12 = m 139 12) (h1 : m' 0 10 = m 0 10) (h2 : m' 145 = m 145) (hv : ∀ k, vw m' k 0 0 = vw m k 0 0) (ht : txSm m m') : txInv m' := by
  obtain ⟨a, b⟩ := h
  refine ⟨by rw [h0, h1]; exact a, fun k k0 k1 => ?_⟩
  rw [h0] at k1
  have q := b k k0 k1
  have e : ∀ j, 0 ≤ j → j < 11 → m' (27 + 12 * k + j) = m (27 + 12 * k + j) := fun j j0 j1 => txSm_at ht k0 (by omega) j0 j1
  have e0 := e 0 (by decide) (by decide)
  rw [Int.add_zero] at e0
  rw [hv k, h2, e0]
  exact ⟨q.1, q.2.1, q.2.2.1, vCt_fr3 q.2.2.2.1 e, cdR_fr q.2.2.2.2 (e 8 (by decide) (by decide)) (e 9 (by decide) (by decide))⟩
theorem vwG_fr {V m m' : jM} {k : Int} (h : vwG V k m) (hv : ∀ i ∈ [(2 : Int), 3, 4, 6, 9, 13], m' 11 i = m 11 i) (hr : ∀ p ∈ [(21 : Int), 22, 23, 24, 25], m' p = m p) (ht : ∀ j, 0 ≤ j → j < 11 → m' (27 + 12 * k + j) = m (27 + 12 * k + j)) (hc : vCf V m') : vwG V k m' := by
  obtain ⟨g1, ⟨b1, b2, b3, b4, b5⟩, g3, g4⟩ := h
  refine ⟨?_, ⟨?_, vCt_fr3 b2 ht, hc, ?_, ?_⟩, cdR_fr g3 (ht 8 (by decide) (by decide)) (ht 9 (by decide) (by decide)), ?_⟩
  · rw [hv 9 (by decide)]; exact g1
  · rw [hv 2 (by decide), hv 3 (by decide), hv 4 (by decide), hv 6 (by decide)]; exact b1
  · unfold vwU at b4 ⊢
    rw [hr 23 (by decide)]; exact b4
  · unfold vwS at b5 ⊢
    rw [hr 24 (by decide), hr 25 (by decide)]; exact b5
  · unfold vwJ at g4 ⊢
    rw [hv 13 (by decide), hr 21 (by decide), hr 22 (by decide)]; exact g4
/-- the class's view: never turned, or turned to what it says -/
def vwR (m : jM) : Prop := (m 11 9 = -1 ∧ m 11 5 = 0) ∨ (1 ≤ m 11 5 ∧ (0 ≤ m 11 9 ∧ m 11 9 < m 139 12 ∧ 0 ≤ m 11 3 ∧ m 11 3 < 365 ∧ 0 ≤ m 11 4 ∧ m 11 4 ≤ m 139 44) ∧ vwG (vw m (m 11 9) (m 11 3) (m 11 4)) (m 11 9) m)
theorem vwR_inv {m : jM} (h : vwR m) : vwInv m := by
  rcases h with h | h
  · exact Or.inl h
  · exact Or.inr ⟨h.1, h.2.2⟩
theorem vwR_nn {m : jM} (h : vwR m) : 0 ≤ m 11 5 := by
  rcases h with h | h <;> omega
theorem vwR_mk {m m' : jM} {k day n : Int} (hg : vwG (vw m k day n) k m') (hs : 1 ≤ m' 11 5) (hq : 0 ≤ k ∧ k < m' 139 12 ∧ 0 ≤ day ∧ day < 365 ∧ 0 ≤ n ∧ n ≤ m' 139 44) (he : agr vwDp [(139, 50)] m m') : vwR m' := by
  have e1 : m' 11 9 = k := hg.1
  have e2 : m' 11 3 = day := hg.2.1.1.2.1
  have e3 : m' 11 4 = n := hg.2.1.1.2.2.1
  refine Or.inr ⟨hs, ?_, ?_⟩
  · rw [e1, e2, e3]; exact hq
  · rw [e1, e2, e3, vw_cg he]; exact hg
/-- what every call but read, and those that tell facts, keeps -/
abbrev kpD : List Int := [3, 140, 14, 15, 16, 17, 18, 19, 20, 13, 174, 175, 176, 177, 178, 179, 135, 136, 137, 138, 133, 186, 187, 188, 120, 121, 122, 123, 124, 125, 180, 181, 182, 127, 128, 129, 130, 131, 132, 183, 184, 185, 145, 147, 148, 154, 157, 159, 149, 150, 151, 152, 153, 155, 156, 158, 146, 160, 161, 163, 164, 166, 167, 168, 169, 170, 171, 7, 27, 28, 29, 30, 31, 32, 33, 34, 35, 36, 37, 39, 40, 41, 42, 43, 44, 45, 46, 47, 48, 49, 51, 52, 53, 54, 55, 56, 57, 58, 59, 60, 61]
abbrev kpF : List (Int × Int) := [(2, 1), (139, 0), (139, 9), (139, 12), (139, 44), (139, 50), (139, 52), (139, 56), (139, 60), (0, 10), (0, 11)]
theorem kp_txSm {m m' : jM} (h : agr kpD kpF m m') : txSm m m' := by
  intro p p0 p1 p2 p3 p4
  refine agr_row h p ?_
  simp only [List.mem_cons, List.not_mem_nil, or_false]
  omega
theorem kp_tx {m m' : jM} (h : agr kpD kpF m m') (hx : txInv m) : txInv m' := txInv_fr hx (agr_at h 139 12 (by decide)) (agr_at h 0 10 (by decide)) (agr_row h 145 (by decide)) (fun k => vw_cg (agr_sub h (by decide) (by decide)) k 0 0) (kp_txSm h)
/-- how the view may have been turned between two memories; what plans and fleet hold is kept -/
def tnX (K : Int) (m m2 : jM) : Prop := (∀ p, 63 ≤ p → p ≤ 119 → m2 p = m p) ∧ ((m2 11 5 = m 11 5 ∧ m2 11 3 = m 11 3 ∧ m2 11 4 = m 11 4 ∧ m2 11 9 = m 11 9) ∨ (m 11 5 < m2 11 5 ∧ m2 11 5 ≤ m 11 5 + K))
theorem tnX_tr {K K' : Int} {m m1 m2 : jM} (h : tnX K m m1) (h2 : tnX K' m1 m2) (k0 : 0 ≤ K) (k1 : 0 ≤ K') : tnX (K + K') m m2 := by
  refine ⟨fun p p0 p1 => (h2.1 p p0 p1).trans (h.1 p p0 p1), ?_⟩
  rcases h.2 with z | z <;> rcases h2.2 with y | y
  · exact Or.inl ⟨by omega, by omega, by omega, by omega⟩
  · exact Or.inr (by omega)
  · exact Or.inr (by omega)
  · exact Or.inr (by omega)
theorem tnX_mo {K K' : Int} {m m2 : jM} (h : tnX K m m2) (hk : K ≤ K') : tnX K' m m2 := ⟨h.1, h.2.elim Or.inl (fun z => Or.inr (by omega))⟩
theorem tnX_rf {K : Int} {m : jM} : tnX K m m := ⟨fun _ _ _ => rfl, Or.inl ⟨rfl, rfl, rfl, rfl⟩⟩
theorem tnX_up {K : Int} {m m1 m2 : jM} (h : tnX K m m1) (hp : ∀ p, 63 ≤ p → p ≤ 119 → m2 p = m1 p) (h3 : m2 11 3 = m1 11 3) (h4 : m2 11 4 = m1 11 4) (h5 : m2 11 5 = m1 11 5) (h9 : m2 11 9 = m1 11 9) : tnX K m m2 := by
  refine ⟨fun p p0 p1 => (hp p p0 p1).trans (h.1 p p0 p1), ?_⟩
  rw [h3, h4, h5, h9]
  exact h.2

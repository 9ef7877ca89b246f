/-! calls that ask: the class looks, then the reference -/
def qI (m : jM) : Prop := fcInv m ∧ txInv m ∧ vwR m ∧ m 11 5 ≤ 20000000
/-- the reference's scratch alone -/
def rfx (m m2 : jM) : Prop := (∀ p, p < 139 → m2 p = m p) ∧ agr kpD kpF m m2
theorem rfx_of {S : List Int} {K : List (Int × Int)} {m m2 : jM} (h : frx S K m m2) (hb : (S.all (fun p => decide (139 < p)) && K.all (fun q => decide (q.1 = 139)) && agrb kpD kpF S K) = true) : rfx m m2 := by
  simp only [Bool.and_eq_true] at hb
  refine ⟨fun p hp => frx_row h p (fun z => ?_) (fun q hq => ?_), agr_of h hb.2⟩
  · have := List.all_eq_true.mp hb.1.1 p z
    have := of_decide_eq_true this
    omega
  · have := List.all_eq_true.mp hb.1.2 q hq
    have := of_decide_eq_true this
    omega
theorem rfx_tr {m m1 m2 : jM} (h : rfx m m1) (h2 : rfx m1 m2) : rfx m m2 := ⟨fun p hp => (h2.1 p hp).trans (h.1 p hp), agr_tr h.2 h2.2⟩
theorem rfx_rf {m : jM} : rfx m m := ⟨fun _ _ => rfl, agr_rf⟩
theorem frc_cg {m m' : jM} (h : agr kpD kpF m m') (day : Int) : frc m' day = frc m day := by
  have e : ∀ j, frcL m' day j = frcL m day j := by
    intro j
    induction j with
    | zero => rfl
    | succ j ih =>
      simp only [frcL]
      rw [ih, agr_row h 145 (by decide)]
  unfold frc
  rw [e, agr_at h 139 12 (by decide)]
theorem lkK_cg {m m' : jM} (h : agr kpD kpF m m') (day n : Int) : lkK m' day n ↔ lkK m day n := by
  unfold lkK
  rw [frc_cg h, agr_at h 139 44 (by decide)]
abbrev vv (m : jM) (day n : Int) : jM := vw m (frc m day) day n
theorem vv_cg {m m' : jM} (h : agr kpD kpF m m') (day n : Int) : vv m' day n = vv m day n := by
  unfold vv
  rw [frc_cg h, vw_cg (agr_sub h (by decide) (by decide))]
/-- the class behind look -/
def vG (K : Int) (m : jM) (day n : Int) (m1 : jM) : Prop := vwG (vv m day n) (frc m day) m1 ∧ 1 ≤ m1 11 5 ∧ agr kpD kpF m m1 ∧ tnX K m m1
theorem lk_K {m : jM} {day n : Int} (h : qI m) (hl : lkK m day n) : (0 ≤ frc m day ∧ frc m day < m 139 12 ∧ m 139 12 ≤ 3 ∧ 0 ≤ day ∧ day < 365 ∧ 0 ≤ n ∧ n ≤ m 139 44) ∧ vKf (vv m day n) ∧ vKt (vv m day n) ∧ vKd (vv m day n) := by
  obtain ⟨l0, l1, l2⟩ := hl
  have xt := h.2.1.1
  have fi := frc_in xt.1 day
  have xk := h.2.1.2 (frc m day) l0 (by omega)
  exact ⟨by omega, (vw_f h.1 (k := frc m day) (by omega) (by omega) l1 l2).1, vKt_vw xk.2.1, vKd_vw xk.2.2.1⟩
theorem tn_agr {m m1 : jM} (h : frx tnUp tnUf m m1) : agr kpD kpF m m1 := agr_of h (by decide)
theorem c_lookQ {m : jM} {Q : Int → jM → Prop} {day n : Int} (h : qI m) (hno : ¬ lkK m day n → Q 0 m) (hQ : ∀ m1, lkK m day n → vG 1 m day n m1 → Q 1 m1) : ML iX10_look [(2, 0), (0, day), (0, n)] m Q := by
  refine c_look h.1 h.2.1 (vwR_inv h.2.2.1) (vwR_nn h.2.2.1) (by have := h.2.2.2; omega) hno (fun m1 hl hf hg hs ho => hQ m1 hl ⟨hg, hs, tn_agr hf, fun p p0 p1 => frx_row hf p ?_ ?_, ?_⟩)
  · simp only [List.mem_cons, List.not_mem_nil, or_false]
    omega
  · intro q hq
    simp only [List.mem_cons, List.not_mem_nil, or_false] at hq
    rcases hq with rfl | rfl | rfl | rfl | rfl | rfl | rfl <;> simp only <;> omega
  · rcases ho with rfl | e
    · exact Or.inl ⟨rfl, rfl, rfl, rfl⟩
    · exact Or.inr ⟨by omega, by omega⟩
/-- the class judges, measures -/
theorem vG_jg {m m1 m2 : jM} {K day n : Int} (h : qI m) (hl : lkK m day n) (g : vG K m day n m1) (hf : frx (jgFr (27 + 12 * frc m day)) [(11, 13)] m1 m2) (hg : vwG (vv m day n) (frc m day) m2) : vG K m day n m2 := by
  obtain ⟨q, -⟩ := lk_K h hl
  have hr : ∀ p, p ∉ [(21 : Int), 22, 24, 25, 26, 38, 50, 62] → p ≠ 11 → m2 p = m1 p := by
    intro p hp hp2
    refine frx_row hf p (fun z => hp ?_) (fun q hq => ?_)
    · simp only [List.mem_cons, List.not_mem_nil, or_false] at z ⊢
      omega
    · simp only [List.mem_cons, List.not_mem_nil, or_false] at hq
      rw [hq]
      exact fun z => hp2 z.symm
  have h11 : ∀ i, i ≠ 13 → m2 11 i = m1 11 i := fun i hi => hf 11 i (by simp only [List.mem_cons, List.not_mem_nil, or_false]; omega) (by simp [hi])
  refine ⟨hg, ?_, agr_tr g.2.2.1 ⟨fun p hp => ?_, fun q hq => ?_⟩, tnX_up g.2.2.2 (fun p p0 p1 => hr p (by simp only [List.mem_cons, List.not_mem_nil, or_false]; omega) (by omega)) (h11 3 (by decide)) (h11 4 (by decide)) (h11 5 (by decide)) (h11 9 (by decide))⟩
  · rw [h11 5 (by decide)]; exact g.2.1
  · refine hr p (fun z => ?_) (fun z => ?_)
    · simp only [List.mem_cons, List.not_mem_nil, or_false] at z
      rcases z with rfl | rfl | rfl | rfl | rfl | rfl | rfl | rfl <;> revert hp <;> decide
    · subst z; revert hp; decide
  · have : q.1 ≠ 11 ∧ q.1 ∉ [(21 : Int), 22, 24, 25, 26, 38, 50, 62] := by
      simp only [List.mem_cons, List.not_mem_nil, or_false] at hq
      rcases hq with rfl | rfl | rfl | rfl | rfl | rfl | rfl | rfl | rfl | rfl | rfl <;> decide
    rw [hr q.1 this.2 this.1]
theorem vwG_sums {V m m2 : jM} {k : Int} (h : vwG V k m) (hb : vwB V (27 + 12 * k) m2) (hf : frx [24, 25] [] m m2) (k0 : 0 ≤ k) : vwG V k m2 := by
  have r : ∀ p, p ≠ 24 → p ≠ 25 → m2 p = m p := fun p h1 h2 => frx_row hf p (by simp [h1, h2]) (by intro q hq; cases hq)
  refine ⟨?_, hb, cdR_fr h.2.2.1 (r _ (by omega) (by omega)) (r _ (by omega) (by omega)), ?_⟩
  · rw [r 11 (by decide) (by decide)]; exact h.1
  · have := h.2.2.2
    unfold vwJ at this ⊢
    rw [r 11 (by decide) (by decide), r 21 (by decide) (by decide), r 22 (by decide) (by decide)]
    exact this
theorem vG_sums {m m1 m2 : jM} {K day n : Int} (h : qI m) (hl : lkK m day n) (g : vG K m day n m1) (hb : vwB (vv m day n) (27 + 12 * frc m day) m2) (hf : frx [24, 25] [] m1 m2) : vG K m day n m2 :=
  vG_jg h hl g (frx_mono hf (by simp) (by simp)) (vwG_sums g.1 hb hf hl.1)
/-- what a call that asks leaves -/
def qOut (K : Int) (m m2 : jM) : Prop := vwR m2 ∧ agr kpD kpF m m2 ∧ tnX K m m2
theorem qOut_rf {K : Int} {m : jM} (h : qI m) : qOut K m m := ⟨h.2.2.1, agr_rf, tnX_rf⟩
theorem vG_qI {m m1 : jM} {K day n : Int} (h : qI m) (hl : lkK m day n) (g : vG K m day n m1) (hK : m 11 5 + K ≤ 20000000) : qI m1 := by
  obtain ⟨q, -⟩ := lk_K h hl
  refine ⟨fcInv_cg (agr_sub g.2.2.1 (by decide) (by decide)) h.1, kp_tx g.2.2.1 h.2.1, vwR_mk g.1 g.2.1 ?_ (agr_sub g.2.2.1 (by decide) (by decide)), ?_⟩
  · rw [agr_at g.2.2.1 139 12 (by decide), agr_at g.2.2.1 139 44 (by decide)]
    omega
  · have := h.2.2.2
    rcases g.2.2.2.2 with z | z <;> omega
theorem q_fin {m m1 m2 : jM} {K day n : Int} (h : qI m) (hl : lkK m day n) (g : vG K m day n m1) (hf : rfx m1 m2) : qOut K m m2 := by
  obtain ⟨q, vk, vt, vd⟩ := lk_K h hl
  have ha := agr_tr g.2.2.1 hf.2
  have r : ∀ p, p < 139 → m2 p = m1 p := hf.1
  refine ⟨vwR_mk (k := frc m day) (day := day) (n := n) (m := m) ?_ ?_ ?_ (agr_sub ha (by decide) (by decide)), ha, tnX_up g.2.2.2 (fun p p0 p1 => r p (by omega)) (by rw [r 11 (by decide)]) (by rw [r 11 (by decide)]) (by rw [r 11 (by decide)]) (by rw [r 11 (by decide)])⟩
  · refine vwG_fr g.1 (fun i _ => by rw [r 11 (by decide)]) (fun p hp => r p (by simp only [List.mem_cons, List.not_mem_nil, or_false] at hp; omega)) (fun j j0 j1 => r _ (by omega)) (vCf_fr g.1.2.1.2.2.1 (fun p hp => r p (by simp only [List.mem_cons, List.not_mem_nil, or_false] at hp; omega)))
  · rw [r 11 (by decide)]; exact g.2.1
  · rw [agr_at ha 139 12 (by decide), agr_at ha 139 44 (by decide)]
    omega
theorem r_isDay {m m1 : jM} {Q : Int → jM → Prop} {day n : Int} (h : qI m) (ha : agr kpD kpF m m1) (hno : ¬ lkK m day n → Q 0 m1) (hQ : lkK m day n → Q 1 m1) : ML iX11_isDay [(2, 139), (0, day), (0, n)] m1 Q := by
  have xt := h.2.1.1
  have e := agr_at ha 139 12 (by decide)
  exact c_isDayR (by omega) (by omega) (fun z => hno (fun y => z ((lkK_cg ha day n).mpr y))) (fun z => hQ ((lkK_cg ha day n).mp z))
theorem r_lay {m m1 : jM} {Q : Int → jM → Prop} {day n : Int} (h : qI m) (hl : lkK m day n) (ha : agr kpD kpF m m1) (hQ : ∀ m2, frx [190, 191] [(139, 69)] m1 m2 → rfx m1 m2 → rG (vv m day n) (frc m day) m2 → Q 0 m2) : ML iX11_lay [(2, 139), (0, day), (0, n)] m1 Q := by
  obtain ⟨q, vk, vt, vd⟩ := lk_K h hl
  have xt := h.2.1.1
  have e := agr_at ha 139 12 (by decide)
  have vf := (vw_f h.1 (k := frc m day) q.2.2.2.1 q.2.2.2.2.1 q.2.2.2.2.2.1 q.2.2.2.2.2.2).2.1
  refine c_layG (V := vv m day n) (k := frc m day) vk vt (vRf_fr vf (agr_at ha 139 44 (by decide)) (agr_at ha 139 50 (by decide)) (fun p hp => agr_row ha p ?_)) (vRt_fr (vRt_vw q.1 (by omega)) (fun p hp => agr_row ha p ?_)) (vRd_fr (vRd_vw q.1 (by omega)) (fun p hp => agr_row ha p ?_)) (by omega) (frc_cg ha day) (fun m2 hf hG => hQ m2 hf (rfx_of hf (by decide)) hG)
  · simp only [List.mem_cons, List.not_mem_nil, or_false] at hp ⊢; omega
  · simp only [List.mem_cons, List.not_mem_nil, or_false] at hp ⊢; omega
  · simp only [List.mem_cons, List.not_mem_nil, or_false] at hp ⊢; omega
theorem kn_cg {m m' : jM} (h : agr kpD kpF m m') (n : Int) : kn m' n = kn m n := by
  unfold kn
  rw [agr_row h 179 (by decide), agr_at h 139 50 (by decide)]
theorem r_isKnownChild {m m1 : jM} {Q : Int → jM → Prop} {c n : Int} (h : qI m) (ha : agr kpD kpF m m1) (hno : ¬ (0 ≤ c ∧ c < kn m n) → Q 0 m1) (hQ : 0 ≤ c → c < kn m n → Q 1 m1) : ML iX11_isKnownChild [(2, 139), (0, c), (0, n)] m1 Q := by
  have hf := fcInv_cg (agr_sub ha (by decide) (by decide)) h.1
  have e := kn_cg ha n
  exact c_isKnownChildR hf.1 (fun z => hno (by omega)) (fun z y => hQ z (by omega))
theorem k_knowsChild {m m1 : jM} {Q : Int → jM → Prop} {c day n : Int} (h : qI m) (hl : lkK m day n) (ha : agr kpD kpF m m1) (hno : ¬ (0 ≤ c ∧ c < kn m n) → Q 0 m1) (hQ : 0 ≤ c → c < kn m n → Q 1 m1) : ML iX10_knowsChild [(2, 0), (0, c), (0, n)] m1 Q := by
  have hf := fcInv_cg (agr_sub ha (by decide) (by decide)) h.1
  have e := kn_cg ha n
  have e2 := agr_at ha 139 44 (by decide)
  have := hl.2
  exact c_knowsChild hf (by omega) (by omega) (fun z => hno (by omega)) (fun z y => hQ z (by omega))

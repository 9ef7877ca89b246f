/-! the plans that are kept; calls that ask for one -/
theorem cPlan_cg {V m m' : jM} {s p : Int} (h : cPlan V s p m) (hf : ∀ q, p ≤ q → q ≤ p + 13 → m' q = m q) : cPlan V s p m' := by
  obtain ⟨⟨⟨a1, a2, a3, a4⟩, b, c⟩, d, e, f⟩ := h
  have r : ∀ j, 0 ≤ j → j ≤ 13 → m' (p + j) = m (p + j) := fun j j0 j1 => hf _ (by omega) (by omega)
  have r0 := r 0 (by decide) (by decide)
  rw [Int.add_zero] at r0
  refine ⟨⟨⟨?_, ?_, ?_, ?_⟩, ?_, ?_⟩, ?_, ?_, ?_⟩
  · rw [r 5 (by decide) (by decide), r 1 (by decide) (by decide)]; exact a1
  · rw [r0]; exact a2
  · rw [r0]; exact a3
  · rw [r0]; exact a4
  · unfold cLg at b ⊢; rw [r 7 (by decide) (by decide), r 8 (by decide) (by decide)]; exact b
  · rw [r 3 (by decide) (by decide), r 2 (by decide) (by decide), r 9 (by decide) (by decide)]; exact c
  · unfold clT clE at d ⊢
    rw [r 10 (by decide) (by decide), r 11 (by decide) (by decide), r 12 (by decide) (by decide), r 13 (by decide) (by decide)]; exact d
  · rw [r0, r 4 (by decide) (by decide)]; exact e
  · rw [r0]; exact f
/-- the view to which the class's view is turned -/
def vc (m : jM) : jM := vw m (m 11 9) (m 11 3) (m 11 4)
def plI1 (m : jM) (s : Int) : Prop := pZ (64 + 14 * s) m ∧ 0 ≤ m (64 + 14 * s) 0 ∧ m (64 + 14 * s) 0 ≤ m 11 5 ∧ (m (64 + 14 * s) 0 = m 11 5 → 1 ≤ m 11 5 → s < vc m 0 2 ∧ cPlan (vc m) s (64 + 14 * s) m)
def plI (m : jM) : Prop := ∀ s, 0 ≤ s → s < 3 → plI1 m s
/-- as tnX, but plans may have been made -/
def tnY (K : Int) (m m2 : jM) : Prop := (∀ p, 106 ≤ p → p ≤ 119 → m2 p = m p) ∧ ((m2 11 5 = m 11 5 ∧ m2 11 3 = m 11 3 ∧ m2 11 4 = m 11 4 ∧ m2 11 9 = m 11 9) ∨ (m 11 5 < m2 11 5 ∧ m2 11 5 ≤ m 11 5 + K))
theorem tnX_Y {K : Int} {m m2 : jM} (h : tnX K m m2) : tnY K m m2 := ⟨fun p p0 p1 => h.1 p (by omega) p1, h.2⟩
theorem tnY_tr {K K' : Int} {m m1 m2 : jM} (h : tnY K m m1) (h2 : tnY K' m1 m2) (k0 : 0 ≤ K) (k1 : 0 ≤ K') : tnY (K + K') m m2 := by
  refine ⟨fun p p0 p1 => (h2.1 p p0 p1).trans (h.1 p p0 p1), ?_⟩
  rcases h.2 with z | z <;> rcases h2.2 with y | y
  · exact Or.inl ⟨by omega, by omega, by omega, by omega⟩
  · exact Or.inr (by omega)
  · exact Or.inr (by omega)
  · exact Or.inr (by omega)
theorem tnY_rf {K : Int} {m : jM} : tnY K m m := ⟨fun _ _ _ => rfl, Or.inl ⟨rfl, rfl, rfl, rfl⟩⟩
theorem vc_cg {m m' : jM} (h : agr kpD kpF m m') (h3 : m' 11 3 = m 11 3) (h4 : m' 11 4 = m 11 4) (h9 : m' 11 9 = m 11 9) : vc m' = vc m := by
  unfold vc
  rw [h3, h4, h9, vw_cg (agr_sub h (by decide) (by decide))]
theorem pZ_cg {m m' : jM} {p : Int} (h : pZ p m) (hf : ∀ q, p ≤ q → q ≤ p + 13 → m' q = m q) : pZ p m' := by
  unfold pZ at *
  rw [hf (p + 10) (by omega) (by omega), hf (p + 11) (by omega) (by omega), hf (p + 12) (by omega) (by omega), hf (p + 13) (by omega) (by omega)]
  exact h
theorem plI_tn {K : Int} {m m2 : jM} (h : plI m) (ha : agr kpD kpF m m2) (ht : tnX K m m2) : plI m2 := by
  intro s s0 s1
  obtain ⟨a, b, c, d⟩ := h s s0 s1
  have r : ∀ q, 64 + 14 * s ≤ q → q ≤ 64 + 14 * s + 13 → m2 q = m q := fun q q0 q1 => ht.1 q (by omega) (by omega)
  have e0 : m2 (64 + 14 * s) = m (64 + 14 * s) := r _ (by omega) (by omega)
  refine ⟨pZ_cg a r, by rw [e0]; exact b, ?_, fun z z1 => ?_⟩
  · rw [e0]
    rcases ht.2 with y | y <;> omega
  · rw [e0] at z
    rcases ht.2 with y | y
    · have ev := vc_cg ha y.2.1 y.2.2.1 y.2.2.2
      rw [ev]
      have := d (by omega) (by omega)
      exact ⟨this.1, cPlan_cg this.2 r⟩
    · omega
/-- what a call that asks for plans leaves -/
def qOutP (K : Int) (m m2 : jM) : Prop := vwR m2 ∧ agr kpD kpF m m2 ∧ tnY K m m2 ∧ plI m2
theorem qOut_P {K : Int} {m m2 : jM} (h : plI m) (hq : qOut K m m2) : qOutP K m m2 := ⟨hq.1, hq.2.1, tnX_Y hq.2.2, plI_tn h hq.2.1 hq.2.2⟩
/-- the class behind canPlan -/
def vP (K : Int) (m : jM) (day n : Int) (m1 : jM) : Prop := vwG (vv m day n) (frc m day) m1 ∧ 1 ≤ m1 11 5 ∧ agr kpD kpF m m1 ∧ tnY K m m1 ∧ plI m1
theorem vG_P {K : Int} {m m1 : jM} {day n : Int} (hp : plI m) (g : vG K m day n m1) : vP K m day n m1 := ⟨g.1, g.2.1, g.2.2.1, tnX_Y g.2.2.2, plI_tn hp g.2.2.1 g.2.2.2⟩
theorem vP_vc {K : Int} {m m1 : jM} {day n : Int} (g : vP K m day n m1) : vc m1 = vv m day n := by
  unfold vc
  rw [g.1.1, g.1.2.1.1.2.1, g.1.2.1.1.2.2.1, vw_cg (agr_sub g.2.2.1 (by decide) (by decide))]
  rfl
theorem q_finP {m m1 m2 : jM} {K day n : Int} (h : qI m) (hl : lkK m day n) (g : vP K m day n m1) (hf : rfx m1 m2) : qOutP K m m2 := by
  obtain ⟨q, vk, vt, vd⟩ := lk_K h hl
  have ha := agr_tr g.2.2.1 hf.2
  have r : ∀ p, p < 139 → m2 p = m1 p := hf.1
  refine ⟨vwR_mk (k := frc m day) (day := day) (n := n) (m := m) ?_ ?_ ?_ (agr_sub ha (by decide) (by decide)), ha, ⟨fun p p0 p1 => by rw [r p (by omega)]; exact g.2.2.2.1.1 p p0 p1, by rw [r 11 (by decide)]; exact g.2.2.2.1.2⟩, plI_tn (K := 0) g.2.2.2.2 hf.2 ⟨fun p p0 p1 => r p (by omega), by rw [r 11 (by decide)]; exact Or.inl ⟨rfl, rfl, rfl, rfl⟩⟩⟩
  · refine vwG_fr g.1 (fun i _ => by rw [r 11 (by decide)]) (fun p hp => r p (by simp only [List.mem_cons, List.not_mem_nil, or_false] at hp; omega)) (fun j j0 j1 => r _ (by omega)) (vCf_fr g.1.2.1.2.2.1 (fun p hp => r p (by simp only [List.mem_cons, List.not_mem_nil, or_false] at hp; omega)))
  · rw [r 11 (by decide)]; exact g.2.1
  · rw [agr_at ha 139 12 (by decide), agr_at ha 139 44 (by decide)]
    omega
/-- memory changed in the plan at p, and in the view's sums -/
theorem mk_kp {p : Int} {m m' : jM} (hp : jPl p) (h : ∀ q, (q < p ∨ p + 13 < q) → q ≠ 24 → q ≠ 25 → m' q = m q) : agr kpD kpF m m' ∧ m' 11 = m 11 ∧ ∀ q, 106 ≤ q → m' q = m q := by
  have pr : 64 ≤ p ∧ p ≤ 92 := by unfold jPl at hp; omega
  refine ⟨⟨fun q hq => ?_, fun q hq => ?_⟩, h 11 (by omega) (by decide) (by decide), fun q hq => h q (by omega) (by omega) (by omega)⟩
  · have : (q < 64 ∨ 105 < q) ∧ q ≠ 24 ∧ q ≠ 25 := by
      have hb : kpD.all (fun q => decide ((q < 64 ∨ 105 < q) ∧ q ≠ 24 ∧ q ≠ 25)) = true := by decide
      exact of_decide_eq_true (List.all_eq_true.mp hb q hq)
    exact h q (by omega) this.2.1 this.2.2
  · have : (q.1 < 64 ∨ 105 < q.1) ∧ q.1 ≠ 24 ∧ q.1 ≠ 25 := by
      have hb : kpF.all (fun q => decide ((q.1 < 64 ∨ 105 < q.1) ∧ q.1 ≠ 24 ∧ q.1 ≠ 25)) = true := by decide
      exact of_decide_eq_true (List.all_eq_true.mp hb q hq)
    rw [h q.1 (by omega) this.2.1 this.2.2]
theorem c_prepare {m m1 : jM} {Q : Int → jM → Prop} {K day n s : Int} (h : qI m) (hl : lkK m day n) (g : vP K m day n m1) (hj : jAll (vv m day n) m1) (s0 : 0 ≤ s) (s1 : s < vv m day n 0 2) (hQ : ∀ m2, vP K m day n m2 → (∀ q, (q < 64 + 14 * s ∨ 64 + 14 * s + 13 < q) → q ≠ 24 → q ≠ 25 → m2 q = m1 q) → cPlan (vv m day n) s (64 + 14 * s) m2 → m2 (64 + 14 * s) 0 = m2 11 5 → Q 0 m2) : ML iX10_preparePlan [(2, 0), (0, s)] m1 Q := by
  obtain ⟨q, vk, vt, vd⟩ := lk_K h hl
  have hN := vt.1
  have hp : jPl (64 + 14 * s) := jPl_i s0 (by omega)
  have ev := vP_vc g
  have hI := g.2.2.2.2 s s0 (by omega)
  refine sX10_preparePlan ⟨s0, by omega, fun z => ?_, fun z => ⟨s0, by omega, ?_⟩⟩
  · have := hI.2.2.2 z g.2.1
    rw [ev] at this
    exact hQ m1 g (fun _ _ _ _ => rfl) this.2 z
  · refine c_make hp vk vt g.1 hj q.1 (by omega) s0 s1 hI.1 (fun m2 f2 g2 c2 e2 z2 => ?_)
    obtain ⟨ha, h11, h106⟩ := mk_kp hp f2
    have ec : vc m2 = vc m1 := vc_cg ha (by rw [h11]) (by rw [h11]) (by rw [h11])
    have est : m2 (64 + 14 * s) 0 = m2 11 5 := by rw [e2, h11]
    refine hQ m2 ⟨g2, by rw [h11]; exact g.2.1, agr_tr g.2.2.1 ha, ⟨fun p p0 p1 => by rw [h106 p p0]; exact g.2.2.2.1.1 p p0 p1, by rw [h11]; exact g.2.2.2.1.2⟩, fun x x0 x1 => ?_⟩ f2 c2 est
    by_cases e : x = s
    · rw [e]
      refine ⟨z2, by rw [est, h11]; have := g.2.1; omega, by rw [est]; exact Int.le_refl _, fun _ _ => ?_⟩
      rw [ec, ev]
      exact ⟨s1, c2⟩
    · obtain ⟨a, b, c, d⟩ := g.2.2.2.2 x x0 x1
      have r : ∀ q, 64 + 14 * x ≤ q → q ≤ 64 + 14 * x + 13 → m2 q = m1 q := fun q q0 q1 => f2 q (by omega) (by omega) (by omega)
      have e0 : m2 (64 + 14 * x) = m1 (64 + 14 * x) := r _ (by omega) (by omega)
      refine ⟨pZ_cg a r, by rw [e0]; exact b, by rw [e0, h11]; exact c, fun y y1 => ?_⟩
      rw [e0, h11] at y
      rw [h11] at y1
      have := d y y1
      rw [ec]
      exact ⟨this.1, cPlan_cg this.2 r⟩
theorem c_canPlan {m : jM} {Q : Int → jM → Prop} {s day n : Int} (h : qI m) (hI : plI m) (hno : ¬ (lkK m day n ∧ 0 ≤ s ∧ s < vv m day n 0 2) → ∀ m1, qOutP 1 m m1 → Q 0 m1) (hQ : ∀ m1, lkK m day n → 0 ≤ s → s < vv m day n 0 2 → vP 1 m day n m1 → jAll (vv m day n) m1 → cPlan (vv m day n) s (64 + 14 * s) m1 → Q 1 m1) : ML iX10_canPlan [(2, 0), (0, s), (0, day), (0, n)] m Q := by
  refine sX10_canPlan (c_lookQ h (fun hn => ⟨fun _ => hno (fun z => hn z.1) m (qOut_P hI (qOut_rf h)), fun z => absurd rfl z⟩) (fun m1 hl g1 => ⟨fun z => absurd z (by decide), fun _ => ?_⟩))
  obtain ⟨q, vk, vt, vd⟩ := lk_K h hl
  rw [g1.1.2.1.1.1, g1.1.2.1.2.1.2.1.2.2.1]
  have out : qOutP 1 m m1 := q_finP h hl (vG_P hI g1) rfx_rf
  refine sX10_within ⟨fun z => ⟨fun w => absurd rfl w, fun _ => hno (by omega) m1 out⟩, fun z => ⟨fun z2 => ⟨fun w => absurd rfl w, fun _ => hno (by omega) m1 out⟩, fun z2 => ⟨fun _ => ?_, fun w => absurd (by decide) w⟩⟩⟩
  refine c_judgeAll vk vt g1.1 (fun m2 f2 w2 b2 => ?_)
  have g2 := vG_P hI (vG_jg h hl g1 f2 w2)
  refine c_prepare h hl g2 b2 (by omega) (by omega) (fun m3 g3 f3 c3 e3 => hQ m3 hl (by omega) (by omega) g3 (fun c c0 c1 => ?_) c3)
  rw [f3 11 (by omega) (by decide) (by decide)]
  exact b2 c c0 c1
theorem r_isSchool {m m1 : jM} {Q : Int → jM → Prop} {s day n : Int} (h : qI m) (ha : agr kpD kpF m m1) (hno : ¬ (lkK m day n ∧ 0 ≤ s ∧ s < vv m day n 0 2) → Q 0 m1) (hQ : lkK m day n → 0 ≤ s → s < vv m day n 0 2 → Q 1 m1) : ML iX11_isSchool [(2, 139), (0, s), (0, day), (0, n)] m1 Q := by
  refine sX11_isSchool (r_isDay h ha (fun hn => ⟨fun _ => hno (fun z => hn z.1), fun z => absurd rfl z⟩) (fun hl => ⟨fun z => absurd z (by decide), fun _ => ⟨fun z => hno (by omega), fun z => ?_⟩⟩))
  obtain ⟨q, vk, vt, vd⟩ := lk_K h hl
  have e12 := agr_at ha 139 12 (by decide)
  have e : vv m day n 0 2 = m 154 (frc m day) := rfl
  refine c_force (by omega) (by omega) ?_
  rw [frc_cg ha, agr_row ha 154 (by decide), ← e]
  exact ⟨q.1, by omega, fun z2 => hno (by omega), fun z2 => hQ hl (by omega) (by omega)⟩
theorem r_isSet {m m1 : jM} {Q : Int → jM → Prop} {s x day n : Int} (h : qI m) (ha : agr kpD kpF m m1) (hno : ¬ (lkK m day n ∧ 0 ≤ s ∧ s < vv m day n 0 2 ∧ 0 < x ∧ x < 2 ^ (vv m day n 0 3).toNat) → Q 0 m1) (hQ : lkK m day n → 0 ≤ s → s < vv m day n 0 2 → 0 < x → x < 2 ^ (vv m day n 0 3).toNat → Q 1 m1) : ML iX11_isSet [(2, 139), (0, s), (0, x), (0, day), (0, n)] m1 Q := by
  refine sX11_isSet (r_isSchool h ha (fun hn => ⟨fun _ => hno (fun z => hn ⟨z.1, z.2.1, z.2.2.1⟩), fun z => absurd rfl z⟩) (fun hl s0 s1 => ⟨fun z => absurd z (by decide), fun _ => ⟨fun z => hno (by omega), fun z => ?_⟩⟩))
  obtain ⟨q, vk, vt, vd⟩ := lk_K h hl
  have hN := vt.1
  have e12 := agr_at ha 139 12 (by decide)
  have e : vv m day n 0 3 = m 157 (frc m day) := rfl
  refine c_force (by omega) (by omega) ?_
  rw [frc_cg ha, agr_row ha 157 (by decide), ← e, jshl1 _ (by omega) (by omega)]
  exact ⟨q.1, by omega, fun z2 => hno (fun w => by omega), fun z2 => hQ hl s0 s1 (by omega) (by omega)⟩
theorem r_riders {m m1 : jM} {Q : Int → jM → Prop} {s day n : Int} (h : qI m) (hl : lkK m day n) (hG : rG (vv m day n) (frc m day) m1) (hQ : ∀ m2, rfx m1 m2 → rG (vv m day n) (frc m day) m2 → rSt (vv m day n) s m2 → Q 0 m2) : ML iX11_riders [(2, 139), (0, s), (0, day), (0, n)] m1 Q := by
  obtain ⟨q, vk, vt, vd⟩ := lk_K h hl
  exact c_riders (V := vv m day n) vk vt vd hG (fun m2 f2 g2 s2 => hQ m2 (rfx_of f2 (by decide)) g2 s2)
theorem c_isStopSet {V m : jM} {Q : Int → jM → Prop} {k x : Int} (ht : vKt V) (hg : vwG V k m) (hno : ¬ (0 < x ∧ x < 2 ^ (V 0 3).toNat) → Q 0 m) (hQ : 0 < x → x < 2 ^ (V 0 3).toNat → Q 1 m) : ML iX10_isStopSet [(2, 0), (0, x)] m Q := by
  have hN := ht.1
  refine sX10_isStopSet ?_
  rw [hg.2.1.1.1, hg.2.1.2.1.2.1.2.2.2.1, jshl1 _ (by omega) (by omega)]
  exact ⟨fun z => hno (by omega), fun z => sX10_within ⟨fun z2 => ⟨fun _ => hno (by omega), fun w => absurd rfl w⟩, fun z2 => ⟨fun z3 => ⟨fun _ => hno (by omega), fun w => absurd rfl w⟩, fun z3 => ⟨fun w => absurd w (by decide), fun _ => hQ (by omega) (by omega)⟩⟩⟩⟩
theorem p6 {V : jM} (ht : vKt V) {x : Int} (h : x < 2 ^ (V 0 3).toNat) : x < 64 := by
  have hN := ht.1
  have e6 : (2 : Int) ^ (V 0 3).toNat ≤ 2 ^ 6 := p2le (by omega)
  have e64 : (2 : Int) ^ 6 = 64 := by decide
  omega

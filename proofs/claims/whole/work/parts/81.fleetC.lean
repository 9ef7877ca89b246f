/-! the class's fleet kept and gathered -/
def hasAll (V : jM) : Prop := ∀ s, 0 ≤ s → s < V 0 2 → 0 ≤ (tA V s (srv V s)).1.1
def flI (m : jM) : Prop := 0 ≤ m 106 0 ∧ m 106 0 ≤ m 11 5 ∧ (m 106 0 = m 11 5 → 1 ≤ m 11 5 → hasAll (vc m) ∧ flD (vc m) m ∧ (m 106 5 = 0 ∨ flS (vc m) m))
def tnZ (K : Int) (m m2 : jM) : Prop := (m2 11 5 = m 11 5 ∧ m2 11 3 = m 11 3 ∧ m2 11 4 = m 11 4 ∧ m2 11 9 = m 11 9) ∨ (m 11 5 < m2 11 5 ∧ m2 11 5 ≤ m 11 5 + K)
theorem flI_tn {K : Int} {m m2 : jM} (h : flI m) (ha : agr kpD kpF m m2) (ht : tnY K m m2) : flI m2 := by
  obtain ⟨a, b, c⟩ := h
  have r : ∀ p, 106 ≤ p → p ≤ 119 → m2 p = m p := ht.1
  have e := r 106 (by decide) (by decide)
  refine ⟨by rw [e]; exact a, ?_, fun z z1 => ?_⟩
  · rw [e]
    rcases ht.2 with y | y <;> omega
  · rw [e] at z
    rcases ht.2 with y | y
    · have q := c (by omega) (by omega)
      rw [vc_cg ha y.2.1 y.2.2.1 y.2.2.2]
      refine ⟨q.1, flD_fr q.2.1 (by rw [e]) (by rw [e]) (r 108 (by decide) (by decide)) (r 114 (by decide) (by decide)), ?_⟩
      rw [e]
      rcases q.2.2 with w | w
      · exact Or.inl w
      · right
        unfold flS at w ⊢
        rw [e, r 107 (by decide) (by decide)]
        exact w
    · omega
def qOutF (K : Int) (m m2 : jM) : Prop := vwR m2 ∧ agr kpD kpF m m2 ∧ tnZ K m m2 ∧ plI m2 ∧ flI m2
theorem qOutP_F {K : Int} {m m2 : jM} (h : flI m) (hq : qOutP K m m2) : qOutF K m m2 := ⟨hq.1, hq.2.1, hq.2.2.1.2, hq.2.2.2, flI_tn h hq.2.1 hq.2.2.1⟩
def vZ (K : Int) (m : jM) (day n : Int) (m1 : jM) : Prop := vwG (vv m day n) (frc m day) m1 ∧ 1 ≤ m1 11 5 ∧ agr kpD kpF m m1 ∧ tnZ K m m1 ∧ plI m1 ∧ flI m1
theorem vP_Z {K : Int} {m m1 : jM} {day n : Int} (hi : flI m) (g : vP K m day n m1) : vZ K m day n m1 := ⟨g.1, g.2.1, g.2.2.1, g.2.2.2.1.2, g.2.2.2.2, flI_tn hi g.2.2.1 g.2.2.2.1⟩
theorem vZ_vc {K : Int} {m m1 : jM} {day n : Int} (g : vZ K m day n m1) : vc m1 = vv m day n := by
  unfold vc
  rw [g.1.1, g.1.2.1.1.2.1, g.1.2.1.1.2.2.1, vw_cg (agr_sub g.2.2.1 (by decide) (by decide))]
  rfl
theorem q_finF {m m1 m2 : jM} {K day n : Int} (h : qI m) (hl : lkK m day n) (g : vZ K m day n m1) (hf : rfx m1 m2) : qOutF K m m2 := by
  obtain ⟨q, vk, vt, vd⟩ := lk_K h hl
  have ha := agr_tr g.2.2.1 hf.2
  have r : ∀ p, p < 139 → m2 p = m1 p := hf.1
  refine ⟨vwR_mk (k := frc m day) (day := day) (n := n) (m := m) ?_ ?_ ?_ (agr_sub ha (by decide) (by decide)), ha, by unfold tnZ; rw [r 11 (by decide)]; exact g.2.2.2.1, plI_tn (K := 0) g.2.2.2.2.1 hf.2 ⟨fun p p0 p1 => r p (by omega), by rw [r 11 (by decide)]; exact Or.inl ⟨rfl, rfl, rfl, rfl⟩⟩, flI_tn (K := 0) g.2.2.2.2.2 hf.2 ⟨fun p p0 p1 => r p (by omega), by rw [r 11 (by decide)]; exact Or.inl ⟨rfl, rfl, rfl, rfl⟩⟩⟩
  · refine vwG_fr g.1 (fun i _ => by rw [r 11 (by decide)]) (fun p hp => r p (by simp only [List.mem_cons, List.not_mem_nil, or_false] at hp; omega)) (fun j j0 j1 => r _ (by omega)) (vCf_fr g.1.2.1.2.2.1 (fun p hp => r p (by simp only [List.mem_cons, List.not_mem_nil, or_false] at hp; omega)))
  · rw [r 11 (by decide)]; exact g.2.1
  · rw [agr_at ha 139 12 (by decide), agr_at ha 139 44 (by decide)]
    omega
/-- memory changed in the fleet and in the view's sums alone -/
theorem fl_kp {m m' : jM} (h : ∀ q, (q < 106 ∨ 119 < q) → q ≠ 24 → q ≠ 25 → m' q = m q) : agr kpD kpF m m' ∧ m' 11 = m 11 := by
  refine ⟨⟨fun q hq => ?_, fun q hq => ?_⟩, h 11 (by omega) (by decide) (by decide)⟩
  · have : (q < 106 ∨ 119 < q) ∧ q ≠ 24 ∧ q ≠ 25 := by
      have hb : kpD.all (fun q => decide ((q < 106 ∨ 119 < q) ∧ q ≠ 24 ∧ q ≠ 25)) = true := by decide
      exact of_decide_eq_true (List.all_eq_true.mp hb q hq)
    exact h q this.1 this.2.1 this.2.2
  · have : (q.1 < 106 ∨ 119 < q.1) ∧ q.1 ≠ 24 ∧ q.1 ≠ 25 := by
      have hb : kpF.all (fun q => decide ((q.1 < 106 ∨ 119 < q.1) ∧ q.1 ≠ 24 ∧ q.1 ≠ 25)) = true := by decide
      exact of_decide_eq_true (List.all_eq_true.mp hb q hq)
    rw [h q.1 this.1 this.2.1 this.2.2]
theorem plI_tn2 {m m2 : jM} (h : plI m) (ha : agr kpD kpF m m2) (hr : ∀ p, 63 ≤ p → p ≤ 105 → m2 p = m p) (h11 : m2 11 = m 11) : plI m2 := by
  intro s s0 s1
  obtain ⟨a, b, c, d⟩ := h s s0 s1
  have r : ∀ q, 64 + 14 * s ≤ q → q ≤ 64 + 14 * s + 13 → m2 q = m q := fun q q0 q1 => hr q (by omega) (by omega)
  have e0 : m2 (64 + 14 * s) = m (64 + 14 * s) := r _ (by omega) (by omega)
  have ev : vc m2 = vc m := vc_cg ha (by rw [h11]) (by rw [h11]) (by rw [h11])
  refine ⟨pZ_cg a r, by rw [e0]; exact b, by rw [e0, h11]; exact c, fun z z1 => ?_⟩
  rw [e0, h11] at z
  rw [h11] at z1
  rw [ev]
  have := d z z1
  exact ⟨this.1, cPlan_cg this.2 r⟩
theorem vZ_fl {K : Int} {m m1 m2 : jM} {day n : Int} (g : vZ K m day n m1) (h : ∀ q, (q < 106 ∨ 119 < q) → q ≠ 24 → q ≠ 25 → m2 q = m1 q) (hg : vwG (vv m day n) (frc m day) m2) (h0 : m2 106 0 = m1 11 5) (hi : hasAll (vv m day n) ∧ flD (vv m day n) m2 ∧ (m2 106 5 = 0 ∨ flS (vv m day n) m2)) : vZ K m day n m2 := by
  obtain ⟨ha, h11⟩ := fl_kp h
  have ec : vc m2 = vc m1 := vc_cg ha (by rw [h11]) (by rw [h11]) (by rw [h11])
  refine ⟨hg, by rw [h11]; exact g.2.1, agr_tr g.2.2.1 ha, by unfold tnZ; rw [h11]; exact g.2.2.2.1, plI_tn2 g.2.2.2.2.1 ha (fun p p0 p1 => h p (by omega) (by omega) (by omega)) h11, ?_, ?_, fun _ _ => ?_⟩
  · rw [h0]; have := g.2.1; omega
  · rw [h0, h11]; exact Int.le_refl _
  · rw [ec, vZ_vc g]
    exact hi
theorem c_gatherFleet {m m1 : jM} {Q : Int → jM → Prop} {K day n : Int} (h : qI m) (hl : lkK m day n) (hI : flI m) (g : vP K m day n m1) (hno : ∀ m2, ¬ hasAll (vv m day n) → vZ K m day n m2 → Q 0 m2) (hQ : ∀ m2, hasAll (vv m day n) → vZ K m day n m2 → flD (vv m day n) m2 → (m2 106 5 = 0 ∨ flS (vv m day n) m2) → m2 106 0 = m2 11 5 → Q 1 m2) : ML iX10_gatherFleet [(2, 0)] m1 Q := by
  obtain ⟨q, vk, vt, vd⟩ := lk_K h hl
  have hN := vt.1
  generalize hV : vv m day n = V at *
  generalize hk : frc m day = k at *
  -- the routes of all plans
  have fill : ∀ m2, vP K m day n m2 → hasAll V → (∀ s, 0 ≤ s → s < V 0 2 → cPlan V s (64 + 14 * s) m2) → ML iX2_clear [(2, 106), (0, m2 11 5), (2, m2 11 2)] m2 (fun _ m10 => GL iX10_gatherFleet m10 102 [(2, 0), (0, 1), (0, 0)] [] Q) := by
    intro m2 g2 hall hpl
    have g20 := g2.1
    rw [hV, hk] at g20
    have e2 : m2 11 2 = 27 + 12 * k := g20.2.1.1.1
    have ct := g20.2.1.2.1
    rw [e2]
    refine sX2_clear ct.1 ?_
    generalize hm3 : jcopy (jcopy (jup (jup (jup (jup m2 106 0 (m2 11 5)) 106 3 0) 106 4 (m2 (27 + 12 * k) 8)) 106 5 0) (27 + 12 * k + 5) 111 3) (27 + 12 * k + 6) 112 3 = m3
    have o3 : ∀ q, q ≠ 106 → q ≠ 111 → q ≠ 112 → m3 q = m2 q := fun q a b c => by rw [← hm3, jcopy_ne c, jcopy_ne b, jup_ne a, jup_ne a, jup_ne a, jup_ne a]
    have v106 : ∀ i, m3 106 i = if i = 5 then 0 else if i = 4 then V 0 2 else if i = 3 then 0 else if i = 0 then m2 11 5 else m2 106 i := by
      intro i
      rw [← hm3, jcopy_ne (by decide), jcopy_ne (by decide), jup_self, jup_self, jup_self, jup_self, ct.2.1.2.2.1]
    have v111 : ∀ s, 0 ≤ s → s < V 0 2 → m3 111 s = V 6 s := by
      intro s s0 s1
      rw [← hm3, jcopy_ne (by decide)]
      unfold jcopy
      rw [if_pos ⟨rfl, s0, by omega⟩, jup_ne (by omega), jup_ne (by omega), jup_ne (by omega), jup_ne (by omega)]
      exact (ct.2.2.2.2.1 s s0 s1).1
    have v112 : ∀ s, 0 ≤ s → s < V 0 2 → m3 112 s = V 7 s := by
      intro s s0 s1
      rw [← hm3]
      unfold jcopy
      rw [if_pos ⟨rfl, s0, by omega⟩, if_neg (by omega), jup_ne (by omega), jup_ne (by omega), jup_ne (by omega), jup_ne (by omega)]
      exact (ct.2.2.2.2.1 s s0 s1).2
    refine lup (n := V 0 2) (I := fun s m4 => 0 ≤ s ∧ s ≤ V 0 2 ∧ (∀ q, q ≠ 106 → q ≠ 108 → q ≠ 109 → q ≠ 110 → m4 q = m3 q) ∧ (∀ i, i ≠ 3 → m4 106 i = m3 106 i) ∧ aR (flL V s.toNat) m4) (G := fun s m4 => GL iX10_gatherFleet m4 102 [(2, 0), (0, 1), (0, s)] [] Q) ?_ ?_ 0 m3 ⟨by decide, by omega, fun q _ _ _ _ => rfl, fun i _ => rfl, by show m3 106 3 = ((0 : Nat) : Int); rw [v106]; rfl, fun i i0 i1 => absurd i1 (by show ¬ i < ((0 : Nat) : Int); omega)⟩
    · rintro s m4 hs ⟨s0, -, f4, h4, a4⟩ K4
      have r4 : ∀ q, (q < 106 ∨ 119 < q) → m4 q = m2 q := fun q hq => by rw [f4 q (by omega) (by omega) (by omega) (by omega)]; exact o3 q (by omega) (by omega) (by omega)
      have g4 : vwG V k m4 := vwG_lo g20 q.1 (by omega) (fun q hq => r4 q (by omega))
      have ct4 := g4.2.1.2.1
      have ln := (flL_mem vk vt s.toNat (by omega)).2
      have lp := (plR_mem vk vt s).2
      refine sX10_gatherFleet_102 ?_
      rw [g4.2.1.1.1, ct4.2.1.2.2.1, jw_id (x := s + 1) (by omega) (by omega)]
      refine ⟨fun w => absurd w (by omega), fun _ => ⟨s0, by omega, c_addRoutes (jPl_i s0 (by omega)) vk vt ct4 (cPlan_cg (hpl s s0 hs) (fun q q0 q1 => r4 q (by omega))) a4 (by omega) (fun m5 f5 h5 a5 => K4 m5 ⟨by omega, by omega, fun q a b c d => by rw [f5 q a b c d]; exact f4 q a b c d, fun i hi => by rw [h5 i hi]; exact h4 i hi, ?_⟩)⟩⟩
      rw [show (s + 1).toNat = s.toNat + 1 by omega]
      simp only [flL]
      rw [Int.toNat_of_nonneg s0]
      exact a5
    · rintro s m4 hs ⟨s0, s1, f4, h4, a4⟩
      obtain rfl : s = V 0 2 := by omega
      have r4 : ∀ q, (q < 106 ∨ 119 < q) → m4 q = m2 q := fun q hq => by rw [f4 q (by omega) (by omega) (by omega) (by omega)]; exact o3 q (by omega) (by omega) (by omega)
      have g4 : vwG V k m4 := vwG_lo g20 q.1 (by omega) (fun q hq => r4 q (by omega))
      refine sX10_gatherFleet_102 ?_
      rw [g4.2.1.1.1, g4.2.1.2.1.2.1.2.2.1]
      refine ⟨fun _ => ?_, fun w => absurd (Int.le_refl _) w⟩
      have R4 : flR V m4 := by
        refine ⟨a4.1, ?_, fun i i0 i1 => ?_, fun s s0 s1 => ?_⟩
        · rw [h4 4 (by decide), v106]; rfl
        · exact a4.2 i i0 i1
        · rw [f4 111 (by decide) (by decide) (by decide) (by decide), f4 112 (by decide) (by decide) (by decide) (by decide)]
          exact ⟨v111 s s0 s1, v112 s s0 s1⟩
      refine c_measureF vk vt g4 q.1 (by omega) R4 (fun m5 f5 g5 d5 => ⟨Or.inr rfl, ?_⟩)
      have e106 : m5 106 = m4 106 := f5 106 (by decide) (by decide) (by decide)
      have e0 : m5 106 0 = m2 11 5 := by rw [e106, h4 0 (by decide), v106]; rfl
      have e5 : m5 106 5 = 0 := by rw [e106, h4 5 (by decide), v106]; rfl
      have fr : ∀ q, (q < 106 ∨ 119 < q) → q ≠ 24 → q ≠ 25 → m5 q = m2 q := fun q hq h24 h25 => by rw [f5 q (by omega) h24 h25]; exact r4 q hq
      have Z : vZ K m day n m5 := vZ_fl (vP_Z hI g2) fr (by rw [hV, hk]; exact g5) e0 (by rw [hV]; exact ⟨hall, d5, Or.inl e5⟩)
      refine hQ m5 hall Z d5 (Or.inl e5) ?_
      rw [e0, fr 11 (by decide) (by decide) (by decide)]
  have g10 := g.1
  rw [hV, hk] at g10
  refine sX10_gatherFleet (c_judgeAll vk vt g10 (fun m2 f2 w2 b2 => ?_))
  have g2 : vP K m day n m2 := by
    have fr2 : ∀ p, p ≠ 11 → p ≠ 21 → p ≠ 22 → p ≠ 24 → p ≠ 25 → p ≠ 26 → p ≠ 38 → p ≠ 50 → p ≠ 62 → m2 p = m1 p := fun p a b c d e f g h i => frx_row f2 p (by simp only [List.mem_cons, List.not_mem_nil, or_false]; omega) (by intro z hz; simp only [List.mem_cons, List.not_mem_nil, or_false] at hz; rw [hz]; exact fun w => a w.symm)
    have f11 : ∀ i, i ≠ 13 → m2 11 i = m1 11 i := fun i hi => f2 11 i (by simp only [List.mem_cons, List.not_mem_nil, or_false]; omega) (by simp [hi])
    have ha : agr kpD kpF m1 m2 := by
      have hb : kpD.all (fun p => decide (p ≠ 11 ∧ p ≠ 21 ∧ p ≠ 22 ∧ p ≠ 24 ∧ p ≠ 25 ∧ p ≠ 26 ∧ p ≠ 38 ∧ p ≠ 50 ∧ p ≠ 62)) = true := by decide
      have hb2 : kpF.all (fun p => decide (p.1 ≠ 11 ∧ p.1 ≠ 21 ∧ p.1 ≠ 22 ∧ p.1 ≠ 24 ∧ p.1 ≠ 25 ∧ p.1 ≠ 26 ∧ p.1 ≠ 38 ∧ p.1 ≠ 50 ∧ p.1 ≠ 62)) = true := by decide
      refine ⟨fun p hp => ?_, fun p hp => ?_⟩
      · have w := of_decide_eq_true (List.all_eq_true.mp hb p hp)
        exact fr2 p w.1 w.2.1 w.2.2.1 w.2.2.2.1 w.2.2.2.2.1 w.2.2.2.2.2.1 w.2.2.2.2.2.2.1 w.2.2.2.2.2.2.2.1 w.2.2.2.2.2.2.2.2
      · have w := of_decide_eq_true (List.all_eq_true.mp hb2 p hp)
        rw [fr2 p.1 w.1 w.2.1 w.2.2.1 w.2.2.2.1 w.2.2.2.2.1 w.2.2.2.2.2.1 w.2.2.2.2.2.2.1 w.2.2.2.2.2.2.2.1 w.2.2.2.2.2.2.2.2]
    refine ⟨by rw [hV, hk]; exact w2, by rw [f11 5 (by decide)]; exact g.2.1, agr_tr g.2.2.1 ha, ⟨fun p p0 p1 => ?_, ?_⟩, plI_tn (K := 0) g.2.2.2.2 ha ⟨fun p p0 p1 => fr2 p (by omega) (by omega) (by omega) (by omega) (by omega) (by omega) (by omega) (by omega) (by omega), Or.inl ⟨f11 5 (by decide), f11 3 (by decide), f11 4 (by decide), f11 9 (by decide)⟩⟩⟩
    · rw [fr2 p (by omega) (by omega) (by omega) (by omega) (by omega) (by omega) (by omega) (by omega) (by omega)]
      exact g.2.2.2.1.1 p p0 p1
    · rw [f11 5 (by decide), f11 3 (by decide), f11 4 (by decide), f11 9 (by decide)]
      exact g.2.2.2.1.2
  refine lup2 (n := V 0 2) (I := fun s m3 (a : Int) => 0 ≤ s ∧ s ≤ V 0 2 ∧ vP K m day n m3 ∧ jAll V m3 ∧ (∀ x, 0 ≤ x → x < s → cPlan V x (64 + 14 * x) m3) ∧ ((a = 1 ∧ ∀ x, 0 ≤ x → x < s → 0 ≤ (tA V x (srv V x)).1.1) ∨ (a = 0 ∧ ¬ hasAll V))) (G := fun s m3 a => GL iX10_gatherFleet m3 11 [(2, 0), (0, a), (0, s)] [] Q) ?_ ?_ 0 m2 1 ⟨by decide, by omega, g2, b2, fun x x0 x1 => by omega, Or.inl ⟨rfl, fun x x0 x1 => by omega⟩⟩
  · rintro s m3 a hs ⟨s0, -, g3, j3, p3, ha⟩ K3
    have g30 := g3.1
    rw [hV, hk] at g30
    refine sX10_gatherFleet_11 ?_
    rw [g30.2.1.1.1, g30.2.1.2.1.2.1.2.2.1, jw_id (x := s + 1) (by omega) (by omega)]
    refine ⟨fun w => absurd w (by omega), fun _ => c_prepare h hl g3 (by rw [hV]; exact j3) s0 (by rw [hV]; exact hs) (fun m4 g4 f4 c4 e4 => ?_)⟩
    rw [hV] at c4
    have j4 : jAll V m4 := fun c c0 c1 => by rw [f4 11 (by omega) (by decide) (by decide)]; exact j3 c c0 c1
    have p4 : ∀ x, 0 ≤ x → x < s + 1 → cPlan V x (64 + 14 * x) m4 := by
      intro x x0 x1
      by_cases e : x = s
      · rw [e]; exact c4
      · exact cPlan_cg (p3 x x0 (by omega)) (fun q q0 q1 => f4 q (by omega) (by omega) (by omega))
    refine ⟨fun a0 => K3 m4 0 ⟨by omega, by omega, g4, j4, p4, Or.inr ⟨rfl, ?_⟩⟩, fun a0 => ⟨s0, by omega, c_hasPlan (jPl_i s0 (by omega)) vk vt c4.1.1.2.1 c4.2.1 (fun hb => ⟨fun _ => K3 m4 0 ⟨by omega, by omega, g4, j4, p4, Or.inr ⟨rfl, fun w => ?_⟩⟩, fun w => absurd rfl w⟩) (fun hb => ⟨fun w => absurd w (by decide), fun _ => K3 m4 1 ⟨by omega, by omega, g4, j4, p4, Or.inl ⟨rfl, fun x x0 x1 => ?_⟩⟩⟩)⟩⟩
    · rcases ha with w | w
      · omega
      · exact w.2
    · have := w s s0 hs
      omega
    · by_cases e : x = s
      · rw [e]; exact hb
      · rcases ha with w | w
        · exact w.2 x x0 (by omega)
        · omega
  · rintro s m3 a hs ⟨s0, s1, g3, j3, p3, ha⟩
    obtain rfl : s = V 0 2 := by omega
    have g30 := g3.1
    rw [hV, hk] at g30
    refine sX10_gatherFleet_11 ?_
    rw [g30.2.1.1.1, g30.2.1.2.1.2.1.2.2.1]
    have e2 : m3 11 2 = 27 + 12 * k := g30.2.1.1.1
    refine ⟨fun _ => ⟨fun a0 => ?_, fun a0 => ?_⟩, fun w => absurd (Int.le_refl _) w⟩
    · rcases ha with w | w
      · omega
      · rw [w.1]
        exact ⟨Or.inl rfl, hno m3 w.2 (vP_Z hI g3)⟩
    · rcases ha with w | w
      · have hall : hasAll V := fun x x0 x1 => w.2 x x0 x1
        rw [w.1]
        refine ⟨fun e => ?_, fun e => ?_⟩
        · have Z := vP_Z hI g3
          have hd := Z.2.2.2.2.2.2.2 e Z.2.1
          rw [vZ_vc Z, hV] at hd
          exact ⟨Or.inr rfl, hQ m3 hall Z hd.2.1 hd.2.2 e⟩
        · have := fill m3 g3 hall p3
          rw [e2] at this
          exact this
      · exact absurd w.1 a0

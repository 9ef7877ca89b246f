/-! load, route, routeStop, good, pay, routes, routeSet, taxis, fewest -/
theorem p_load {m : jM} {s p day n : Int} (h : qI m) (hI : plI m) : ML iX10_load [(2, 0), (0, s), (0, p), (0, day), (0, n)] m (fun r m1 => ML iX11_load [(2, 139), (0, s), (0, p), (0, day), (0, n)] m1 (fun r' m2 => r = r' ∧ qOutP 1 m m2)) := by
  refine sX10_load (c_canPlan h hI (fun hn m1 o1 => ⟨fun _ => ?_, fun z => absurd rfl z⟩) (fun m1 hl s0 s1 g1 j1 c1 => ⟨fun z => absurd z (by decide), fun _ => ?_⟩))
  · exact sX11_load (r_isSchool h o1.2.1 (fun _ => ⟨fun _ => ⟨rfl, o1⟩, fun z => absurd rfl z⟩) (fun y0 y1 y2 => absurd ⟨y0, y1, y2⟩ hn))
  · obtain ⟨q, vk, vt, vd⟩ := lk_K h hl
    have hN := vt.1
    rw [g1.1.2.1.1.1, g1.1.2.1.2.1.2.1.2.2.2.1]
    have e : vv m day n 0 3 = m 157 (frc m day) := rfl
    have e12 := agr_at g1.2.2.1 139 12 (by decide)
    have ref : ∀ x : Int, (¬ (0 ≤ p ∧ p < vv m day n 0 3) → x = -1) → (0 ≤ p → p < vv m day n 0 3 → x = stN (vv m day n) s p) → ML iX11_load [(2, 139), (0, s), (0, p), (0, day), (0, n)] m1 (fun r' m2 => x = r' ∧ qOutP 1 m m2) := by
      intro x x1 x2
      refine sX11_load (r_isSchool h g1.2.2.1 (fun y => absurd ⟨hl, s0, s1⟩ y) (fun _ _ _ => ⟨fun z => absurd z (by decide), fun _ => ⟨fun z => ⟨x1 (by omega), q_finP h hl g1 rfx_rf⟩, fun z => ?_⟩⟩))
      refine c_force (by omega) (by omega) ?_
      rw [frc_cg g1.2.2.1, agr_row g1.2.2.1 157 (by decide), ← e]
      refine ⟨q.1, by omega, fun z2 => r_lay h hl g1.2.2.1 (fun m2 f2 x2' G2 => r_riders h hl G2 (fun m3 x3 G3 S3 => ⟨by omega, by omega, ?_⟩)), fun z2 => ⟨x1 (by omega), q_finP h hl g1 rfx_rf⟩⟩
      rw [(S3.2.1 p (by omega) (by omega)).2.1]
      exact ⟨x2 (by omega) z2, q_finP h hl g1 (rfx_tr x2' x3)⟩
    refine sX10_within ⟨fun z => ⟨fun w => absurd rfl w, fun _ => ref _ (fun _ => rfl) (fun y _ => by omega)⟩, fun z => ⟨fun z2 => ⟨fun w => absurd rfl w, fun _ => ref _ (fun _ => rfl) (fun _ y => by omega)⟩, fun z2 => ⟨fun _ => ⟨s0, by omega, by omega, by omega, ?_⟩, fun w => absurd (by decide) w⟩⟩⟩
    rw [(c1.1.1.1 p (by omega) (by omega)).2]
    exact ref _ (fun y => absurd ⟨by omega, by omega⟩ y) (fun _ _ => rfl)
/-- the answer of route -/
noncomputable def rtA (V : jM) (s x : Int) : Int := @ite _ (sub6 x (srv V s) ∧ bh V s x (-1) < 268435456) (Classical.propDecidable _) (bh V s x (-1)) (-2)
theorem r_route {m m1 : jM} {Q : Int → jM → Prop} {s x day n : Int} (h : qI m) (ha : agr kpD kpF m m1) (hno : ¬ (lkK m day n ∧ 0 ≤ s ∧ s < vv m day n 0 2 ∧ 0 < x ∧ x < 2 ^ (vv m day n 0 3).toNat) → Q (-1) m1) (hQ : ∀ m2, lkK m day n → 0 ≤ s → s < vv m day n 0 2 → 0 < x → x < 2 ^ (vv m day n 0 3).toNat → rfx m1 m2 → rG (vv m day n) (frc m day) m2 → rSt (vv m day n) s m2 → rlO (vv m day n) s x m2 → Q (rtA (vv m day n) s x) m2) : ML iX11_route [(2, 139), (0, s), (0, x), (0, day), (0, n)] m1 Q := by
  refine sX11_route (r_isSet h ha (fun hn => ⟨fun w => absurd rfl w, fun _ => hno hn⟩) (fun hl s0 s1 x0 x1 => ⟨fun _ => ?_, fun w => absurd (by decide) w⟩))
  obtain ⟨q, vk, vt, vd⟩ := lk_K h hl
  have x64 := p6 vt x1
  refine r_lay h hl ha (fun m2 f2 x2 G2 => r_riders h hl G2 (fun m3 x3 G3 S3 => c_laid vt vk.1.2.2.2.2 G3 S3 s0 s1 x0 x1 (fun m4 f4 o1 o2 l4 => ⟨by omega, x64, ?_⟩)))
  have G4 : rG (vv m day n) (frc m day) m4 := rG_fr G3 (f4 139 69 (by decide) (by decide)) (f4 139 12 (by decide) (by decide)) (f4 139 44 (by decide) (by decide)) (f4 139 50 (by decide) (by decide)) (agr_of f4 (by decide))
  have S4 : rSt (vv m day n) s m4 := rSt_fr S3 (f4 139 75 (by decide) (by decide)) (frx_row f4 195 (by decide) (by decide)) (frx_row f4 196 (by decide) (by decide)) (frx_row f4 201 (by decide) (by decide))
  have fin := hQ m4 hl s0 s1 x0 x1 (rfx_tr x2 (rfx_tr x3 (rfx_of f4 (by decide)))) G4 S4 l4
  have bb := bh_in vt s (x := x) (by omega) x64 (-1)
  unfold rtA at fin
  by_cases hs : sub6 x (srv (vv m day n) s)
  · rw [(l4.1 hs).1]
    unfold dE
    by_cases hb : bh (vv m day n) s x (-1) < 268435456
    · rw [if_pos hb]
      rw [if_pos ⟨hs, hb⟩] at fin
      exact ⟨fun _ => ⟨by omega, x64, fin⟩, fun w => absurd bb.1 w⟩
    · rw [if_neg hb]
      rw [if_neg (fun w => hb w.2)] at fin
      exact ⟨fun w => absurd w (by decide), fun _ => fin⟩
  · rw [l4.2 hs]
    rw [if_neg (fun w => hs w.1)] at fin
    exact ⟨fun w => absurd w (by decide), fun _ => fin⟩
theorem rtA_min {V m : jM} {s p x : Int} {Q : Int → jM → Prop} (ht : vKt V) (hP : cPl V s p m) (x0 : 0 < x) (x1 : x < 64) (h1 : sub6 x (srv V s) → bh V s x (-1) < 268435456 → m (p + 2) x = bh V s x (-1) → (m (p + 2) x < 268435456) → Q (rtA V s x) m) (h2 : ¬ (m (p + 2) x < 268435456) → rtA V s x = -2 → Q (-2) m) : (m (p + 2) x < 268435456 → Q (m (p + 2) x) m) ∧ (¬ m (p + 2) x < 268435456 → Q (-2) m) := by
  have hx := hP.2.2 x x0 x1
  by_cases hs : sub6 x (srv V s)
  · have e := (hx.2.2.2 hs).1
    refine ⟨fun z => ?_, fun z => h2 z ?_⟩
    · have hb : bh V s x (-1) < 268435456 := by omega
      have := h1 hs hb e z
      unfold rtA at this
      rw [if_pos ⟨hs, hb⟩, ← e] at this
      exact this
    · unfold rtA
      rw [if_neg (fun w => z (by omega))]
  · have e := hx.2.2.1 hs
    refine ⟨fun z => by omega, fun z => h2 z ?_⟩
    unfold rtA
    rw [if_neg (fun w => hs w.1)]
theorem p_route {m : jM} {s x day n : Int} (h : qI m) (hI : plI m) : ML iX10_route [(2, 0), (0, s), (0, x), (0, day), (0, n)] m (fun r m1 => ML iX11_route [(2, 139), (0, s), (0, x), (0, day), (0, n)] m1 (fun r' m2 => r = r' ∧ qOutP 1 m m2)) := by
  refine sX10_route (c_canPlan h hI (fun hn m1 o1 => ⟨fun _ => ?_, fun z => absurd rfl z⟩) (fun m1 hl s0 s1 g1 j1 c1 => ⟨fun z => absurd z (by decide), fun _ => ?_⟩))
  · exact r_route h o1.2.1 (fun _ => ⟨rfl, o1⟩) (fun m2 y0 y1 y2 => absurd ⟨y0, y1, y2⟩ hn)
  · obtain ⟨q, vk, vt, vd⟩ := lk_K h hl
    have hN := vt.1
    refine c_isStopSet vt g1.1 (fun hn => ⟨fun w => absurd rfl w, fun _ => r_route h g1.2.2.1 (fun _ => ⟨rfl, q_finP h hl g1 rfx_rf⟩) (fun m2 _ _ _ y3 y4 => absurd ⟨y3, y4⟩ hn)⟩) (fun x0 x1 => ⟨fun _ => ⟨s0, by omega, by omega, p6 vt x1, ?_⟩, fun w => absurd (by decide) w⟩)
    have ref : ML iX11_route [(2, 139), (0, s), (0, x), (0, day), (0, n)] m1 (fun r' m2 => rtA (vv m day n) s x = r' ∧ qOutP 1 m m2) := r_route h g1.2.2.1 (fun y => absurd ⟨hl, s0, s1, x0, x1⟩ y) (fun m2 _ _ _ _ _ x2 _ _ _ => ⟨rfl, q_finP h hl g1 x2⟩)
    have := rtA_min (p := 64 + 14 * s) (m := m1) (Q := fun r m1 => ML iX11_route [(2, 139), (0, s), (0, x), (0, day), (0, n)] m1 (fun r' m2 => r = r' ∧ qOutP 1 m m2)) vt c1.1 x0 (p6 vt x1) (fun _ _ _ _ => ref) (fun _ e => by rw [e] at ref; exact ref)
    exact this
theorem cnt20 : ∀ x : Fin 64, cnt ((x : Nat) : Int) 20 = cnt ((x : Nat) : Int) 6 := by decide +kernel
theorem p_routeStop {m : jM} {s x day n i : Int} (h : qI m) (hI : plI m) : ML iX10_routeStop [(2, 0), (0, s), (0, x), (0, day), (0, n), (0, i)] m (fun r m1 => ML iX11_routeStop [(2, 139), (0, s), (0, x), (0, day), (0, n), (0, i)] m1 (fun r' m2 => r = r' ∧ qOutP 1 m m2)) := by
  refine sX10_routeStop (c_canPlan h hI (fun hn m1 o1 => ⟨fun _ => ?_, fun z => absurd rfl z⟩) (fun m1 hl s0 s1 g1 j1 c1 => ⟨fun z => absurd z (by decide), fun _ => ?_⟩))
  · exact sX11_routeStop (r_route h o1.2.1 (fun _ => ⟨fun _ => ⟨rfl, o1⟩, fun z => absurd (by decide) z⟩) (fun m2 y0 y1 y2 => absurd ⟨y0, y1, y2⟩ hn))
  · obtain ⟨q, vk, vt, vd⟩ := lk_K h hl
    have hN := vt.1
    refine c_isStopSet vt g1.1 (fun hn => ⟨fun w => absurd rfl w, fun _ => sX11_routeStop (r_route h g1.2.2.1 (fun _ => ⟨fun _ => ⟨rfl, q_finP h hl g1 rfx_rf⟩, fun z => absurd (by decide) z⟩) (fun m2 _ _ _ y3 y4 => absurd ⟨y3, y4⟩ hn))⟩) (fun x0 x1 => ⟨fun _ => ⟨s0, by omega, ?_⟩, fun w => absurd (by decide) w⟩)
    have x64 := p6 vt x1
    have c20 := cnt20 ⟨x.toNat, by omega⟩
    simp only [Int.toNat_of_nonneg (show 0 ≤ x by omega)] at c20
    have c6 := (cnt_nn x 6).2
    refine c_stopInRoute (jPl_i s0 (by omega)) vt c1.1 (sX11_routeStop (r_route h g1.2.2.1 (fun y => absurd ⟨hl, s0, s1, x0, x1⟩ y) (fun m2 _ _ _ _ _ x2 G2 S2 l2 => ?_)))
    have out := q_finP h hl g1 x2
    by_cases hb : sub6 x (srv (vv m day n) s) ∧ bh (vv m day n) s x (-1) < 268435456
    · have bb := bh_in vt s (x := x) (by omega) x64 (-1)
      have er : rtA (vv m day n) s x = bh (vv m day n) s x (-1) := by unfold rtA; rw [if_pos hb]
      rw [er]
      refine ⟨fun z => absurd bb.1 (by omega), fun _ => ⟨fun z => ⟨?_, out⟩, fun z => c_manyOf (by omega) (by omega) ⟨fun z2 => ?_, fun z2 => ⟨?_, out⟩⟩⟩⟩
      · unfold stpI
        rw [if_neg (by omega)]
      · rw [c20] at z2
        rw [jw_id (x := 6 * x) (by omega) (by omega), jw_id (x := 6 * x + i) (by omega) (by omega)]
        refine ⟨by omega, by omega, ?_, out⟩
        rw [(l2.1 hb.1).2 hb.2 i (by omega) z2]
        unfold stpI
        rw [if_pos ⟨by omega, z2, x0, x64, hb.1, hb.2⟩]
      · rw [c20] at z2
        unfold stpI
        rw [if_neg (fun w => z2 w.2.1)]
    · have er : rtA (vv m day n) s x = -2 := by unfold rtA; rw [if_neg hb]
      rw [er]
      refine ⟨fun _ => ⟨?_, out⟩, fun z => absurd (by decide) z⟩
      unfold stpI
      rw [if_neg (fun w => hb ⟨w.2.2.2.2.1, w.2.2.2.2.2⟩)]
theorem p_good {m : jM} {s x day n : Int} (h : qI m) (hI : plI m) : ML iX10_good [(2, 0), (0, s), (0, x), (0, day), (0, n)] m (fun r m1 => ML iX11_good [(2, 139), (0, s), (0, x), (0, day), (0, n)] m1 (fun r' m2 => r = r' ∧ qOutP 1 m m2)) := by
  refine sX10_good (c_canPlan h hI (fun hn m1 o1 => ⟨fun _ => ?_, fun z => absurd rfl z⟩) (fun m1 hl s0 s1 g1 j1 c1 => ⟨fun z => absurd z (by decide), fun _ => ?_⟩))
  · exact sX11_good (r_route h o1.2.1 (fun _ => ⟨fun z => absurd z (by decide), fun _ => ⟨rfl, o1⟩⟩) (fun m2 y0 y1 y2 => absurd ⟨y0, y1, y2⟩ hn))
  · obtain ⟨q, vk, vt, vd⟩ := lk_K h hl
    have hN := vt.1
    refine c_isStopSet vt g1.1 (fun hn => ⟨fun w => absurd rfl w, fun _ => sX11_good (r_route h g1.2.2.1 (fun _ => ⟨fun z => absurd z (by decide), fun _ => ⟨rfl, q_finP h hl g1 rfx_rf⟩⟩) (fun m2 _ _ _ y3 y4 => absurd ⟨y3, y4⟩ hn))⟩) (fun x0 x1 => ⟨fun _ => ⟨s0, by omega, by omega, p6 vt x1, ?_⟩, fun w => absurd (by decide) w⟩)
    have x64 := p6 vt x1
    have hx := c1.1.2.2 x x0 x64
    have bb := bh_in vt s (x := x) (by omega) x64 (-1)
    -- the reference
    have ref : ∀ a : Int, (sub6 x (srv (vv m day n) s) ∧ bh (vv m day n) s x (-1) < 268435456 → (a = 1 ∧ gd (vv m day n) s x) ∨ (a = 0 ∧ ¬ gd (vv m day n) s x)) → (¬ (sub6 x (srv (vv m day n) s) ∧ bh (vv m day n) s x (-1) < 268435456) → a = -2) → ML iX11_good [(2, 139), (0, s), (0, x), (0, day), (0, n)] m1 (fun r' m2 => a = r' ∧ qOutP 1 m m2) := by
      intro a a1 a2
      refine sX11_good (r_route h g1.2.2.1 (fun y => absurd ⟨hl, s0, s1, x0, x1⟩ y) (fun m2 _ _ _ _ _ x2 G2 S2 l2 => ?_))
      by_cases hb : sub6 x (srv (vv m day n) s) ∧ bh (vv m day n) s x (-1) < 268435456
      · have er : rtA (vv m day n) s x = bh (vv m day n) s x (-1) := by unfold rtA; rw [if_pos hb]
        rw [er]
        refine ⟨fun _ => c_judge2 vt vk G2 S2 x0 x64 ⟨fun w => (l2.1 w).1, l2.2⟩ (fun m3 f3 o3 b3 i3 p3 => ⟨by omega, x64, fun z => ?_, fun z => ?_⟩), fun w => absurd bb.1 w⟩
        · refine ⟨?_, q_finP h hl g1 (rfx_tr x2 (rfx_of f3 (by decide)))⟩
          rcases a1 hb with w | w
          · have := i3.mpr w.2
            omega
          · exact w.1
        · refine ⟨?_, q_finP h hl g1 (rfx_tr x2 (rfx_of f3 (by decide)))⟩
          rcases a1 hb with w | w
          · exact w.1
          · have := i3.mp (by omega)
            exact absurd this w.2
      · have er : rtA (vv m day n) s x = -2 := by unfold rtA; rw [if_neg hb]
        rw [er]
        exact ⟨fun z => absurd z (by decide), fun _ => ⟨a2 hb, q_finP h hl g1 x2⟩⟩
    refine ⟨fun z => ⟨s0, by omega, by omega, x64, fun z2 => ref 0 (fun w => Or.inr ⟨rfl, fun g => ?_⟩) (fun w => absurd ?_ w), fun z2 => ref 1 (fun w => Or.inl ⟨rfl, ?_⟩) (fun w => absurd ?_ w)⟩, fun z => ref (-2) (fun w => absurd ?_ z) (fun _ => rfl)⟩
    · have := hx.2.1.mpr g
      omega
    · have hs : sub6 x (srv (vv m day n) s) := by
        apply Classical.byContradiction
        intro w
        rw [hx.2.2.1 w] at z
        exact absurd z (by decide)
      exact ⟨hs, by rw [← (hx.2.2.2 hs).1]; exact z⟩
    · exact hx.2.1.mp (by have := hx.1; omega)
    · have hs : sub6 x (srv (vv m day n) s) := by
        apply Classical.byContradiction
        intro w
        rw [hx.2.2.1 w] at z
        exact absurd z (by decide)
      exact ⟨hs, by rw [← (hx.2.2.2 hs).1]; exact z⟩
    · rw [(hx.2.2.2 w.1).1]
      exact w.2
/-! the plan's answers -/
theorem r_planOf {m m1 : jM} {Q : Int → jM → Prop} {s day n : Int} (h : qI m) (ha : agr kpD kpF m m1) (hno : ¬ (lkK m day n ∧ 0 ≤ s ∧ s < vv m day n 0 2) → Q (-1) m1) (hQ : ∀ m2, lkK m day n → 0 ≤ s → s < vv m day n 0 2 → rfx m1 m2 → rPl (vv m day n) (frc m day) s m2 → m2 203 (srv (vv m day n) s) = (tA (vv m day n) s (srv (vv m day n) s)).1.1 → m2 139 86 = ((plR (vv m day n) s).1.length : Int) → (∀ j, 0 ≤ j → j < ((plR (vv m day n) s).1.length : Int) → m2 205 j = fnL (plR (vv m day n) s).1 j) → m2 139 88 = (plR (vv m day n) s).2 → (plR (vv m day n) s).1.length ≤ 6 → Q (if (tA (vv m day n) s (srv (vv m day n) s)).1.1 < 0 then -2 else 0) m2) : ML iX11_planOf [(2, 139), (0, s), (0, day), (0, n)] m1 Q := by
  refine sX11_planOf (r_isSchool h ha (fun hn => ⟨fun w => absurd rfl w, fun _ => hno hn⟩) (fun hl s0 s1 => ⟨fun _ => ?_, fun w => absurd (by decide) w⟩))
  obtain ⟨q, vk, vt, vd⟩ := lk_K h hl
  refine r_lay h hl ha (fun m2 f2 x2 G2 => c_allRoutes (V := vv m day n) vk vt vd G2 s0 s1 (fun m3 f3 G3 S3 A3 => c_plans vk vt ⟨G3, S3, A3⟩ s0 s1 (fun m4 f4 e1 e2 e3 e4 e5 => ?_)))
  have P4 : rPl (vv m day n) (frc m day) s m4 := rPl_fr ⟨G3, S3, A3⟩ (agr_of f4 (by decide))
  have fin := hQ m4 hl s0 s1 (rfx_tr x2 (rfx_tr (rfx_of f3 (by decide)) (rfx_of f4 (by decide)))) P4 e1 e2 e3 e4 e5
  by_cases hb : (tA (vv m day n) s (srv (vv m day n) s)).1.1 < 0
  · rw [if_pos hb] at fin ⊢
    exact ⟨fun _ => fin, fun w => absurd rfl w⟩
  · rw [if_neg hb] at fin ⊢
    exact ⟨fun w => absurd w (by decide), fun _ => fin⟩
/-- asking a plan for what it has, in both -/
theorem p_ask {m : jM} {s day n : Int} {F : Int → jM → Prop} {R : jM → Prop} (h : qI m) (hI : plI m) (hno : ∀ m1, ¬ (lkK m day n ∧ 0 ≤ s ∧ s < vv m day n 0 2) → qOutP 1 m m1 → F (-1) m1) (hno2 : ∀ m1, lkK m day n → 0 ≤ s → s < vv m day n 0 2 → vP 1 m day n m1 → cPlan (vv m day n) s (64 + 14 * s) m1 → (tA (vv m day n) s (srv (vv m day n) s)).1.1 < 0 → F (-2) m1) (hyes : ∀ m1, lkK m day n → 0 ≤ s → s < vv m day n 0 2 → vP 1 m day n m1 → cPlan (vv m day n) s (64 + 14 * s) m1 → 0 ≤ (tA (vv m day n) s (srv (vv m day n) s)).1.1 → R m1) : ML iX10_canPlan [(2, 0), (0, s), (0, day), (0, n)] m (fun r1 m2 => ((r1 ≠ 0 → (0 ≤ s ∧ s < 3 ∧ ML iX3_hasPlan [(2, (64 + 14 * s))] m2 (fun r10 m11 => ((r10 = 0 → F (-2) m11) ∧ (¬ (r10 = 0) → R m11))))) ∧ (¬ (r1 ≠ 0) → F (-1) m2))) := by
  refine c_canPlan h hI (fun hn m1 o1 => ⟨fun w => absurd rfl w, fun _ => hno m1 hn o1⟩) (fun m1 hl s0 s1 g1 j1 c1 => ⟨fun _ => ?_, fun w => absurd (by decide) w⟩)
  obtain ⟨q, vk, vt, vd⟩ := lk_K h hl
  have hN := vt.1
  exact ⟨s0, by omega, c_hasPlan (jPl_i s0 (by omega)) vk vt c1.1.1.2.1 c1.2.1 (fun hb => ⟨fun _ => hno2 m1 hl s0 s1 g1 c1 hb, fun w => absurd rfl w⟩) (fun hb => ⟨fun w => absurd w (by decide), fun _ => hyes m1 hl s0 s1 g1 c1 hb⟩)⟩
theorem p_pay {m : jM} {s day n : Int} (h : qI m) (hI : plI m) : ML iX10_pay [(2, 0), (0, s), (0, day), (0, n)] m (fun r m1 => ML iX11_pay [(2, 139), (0, s), (0, day), (0, n)] m1 (fun r' m2 => r = r' ∧ qOutP 1 m m2)) := by
  refine sX10_pay (p_ask (s := s) (day := day) (n := n) (F := fun r m1 => ML iX11_pay [(2, 139), (0, s), (0, day), (0, n)] m1 (fun r' m2 => r = r' ∧ qOutP 1 m m2)) (R := fun m11 => (0 ≤ s ∧ s < 3 ∧ ML iX3_leastPay [(2, (64 + 14 * s))] m11 (fun r20 m21 => ML iX11_pay [(2, 139), (0, s), (0, day), (0, n)] m21 (fun r' m2 => r20 = r' ∧ qOutP 1 m m2)))) h hI (fun m1 hn o1 => ?_) (fun m1 hl s0 s1 g1 c1 hb => ?_) (fun m1 hl s0 s1 g1 c1 hb => ?_))
  · exact sX11_pay (r_planOf h o1.2.1 (fun _ => ⟨fun w => absurd w (by decide), fun _ => ⟨rfl, o1⟩⟩) (fun m2 y0 y1 y2 => absurd ⟨y0, y1, y2⟩ hn))
  · refine sX11_pay (r_planOf h g1.2.2.1 (fun y => absurd ⟨hl, s0, s1⟩ y) (fun m2 _ _ _ x2 P2 e1 e2 e3 e4 e5 => ?_))
    rw [if_pos hb]
    exact ⟨fun w => absurd w (by decide), fun _ => ⟨rfl, q_finP h hl g1 x2⟩⟩
  · obtain ⟨q, vk, vt, vd⟩ := lk_K h hl
    have hN := vt.1
    have so := srv_ok vt s
    refine ⟨s0, by omega, sX3_leastPay (jPl_i s0 (by omega)) ?_⟩
    rw [c1.1.1.2.1, (c1.2.1 _ so.1 so.2.1 (fun i _ _ w => w)).1, if_neg (by omega)]
    refine ⟨so.1, so.2.1, sX11_pay (r_planOf h g1.2.2.1 (fun y => absurd ⟨hl, s0, s1⟩ y) (fun m2 _ _ _ x2 P2 e1 e2 e3 e4 e5 => ?_))⟩
    rw [if_neg (by omega)]
    refine ⟨fun _ => c_ridden vk vt P2.1 P2.2.1 ⟨so.1, so.2.1, e1.symm, q_finP h hl g1 x2⟩, fun w => absurd (by decide) w⟩
theorem p_routes {m : jM} {s day n : Int} (h : qI m) (hI : plI m) : ML iX10_routes [(2, 0), (0, s), (0, day), (0, n)] m (fun r m1 => ML iX11_routes [(2, 139), (0, s), (0, day), (0, n)] m1 (fun r' m2 => r = r' ∧ qOutP 1 m m2)) := by
  refine sX10_routes (p_ask (s := s) (day := day) (n := n) (F := fun r m1 => ML iX11_routes [(2, 139), (0, s), (0, day), (0, n)] m1 (fun r' m2 => r = r' ∧ qOutP 1 m m2)) (R := fun m11 => (0 ≤ s ∧ s < 3 ∧ ML iX11_routes [(2, 139), (0, s), (0, day), (0, n)] m11 (fun r' m2 => m11 (64 + 14 * s) 4 = r' ∧ qOutP 1 m m2))) h hI (fun m1 hn o1 => ?_) (fun m1 hl s0 s1 g1 c1 hb => ?_) (fun m1 hl s0 s1 g1 c1 hb => ?_))
  · exact sX11_routes (r_planOf h o1.2.1 (fun _ => ⟨fun w => absurd w (by decide), fun _ => ⟨rfl, o1⟩⟩) (fun m2 y0 y1 y2 => absurd ⟨y0, y1, y2⟩ hn))
  · refine sX11_routes (r_planOf h g1.2.2.1 (fun y => absurd ⟨hl, s0, s1⟩ y) (fun m2 _ _ _ x2 P2 e1 e2 e3 e4 e5 => ?_))
    rw [if_pos hb]
    exact ⟨fun w => absurd w (by decide), fun _ => ⟨rfl, q_finP h hl g1 x2⟩⟩
  · obtain ⟨q, vk, vt, vd⟩ := lk_K h hl
    have hN := vt.1
    refine ⟨s0, by omega, sX11_routes (r_planOf h g1.2.2.1 (fun y => absurd ⟨hl, s0, s1⟩ y) (fun m2 _ _ _ x2 P2 e1 e2 e3 e4 e5 => ?_))⟩
    rw [if_neg (by omega)]
    exact ⟨fun _ => ⟨by rw [c1.2.2.1.1, e2], q_finP h hl g1 x2⟩, fun w => absurd (by decide) w⟩
theorem p_taxis {m : jM} {s day n : Int} (h : qI m) (hI : plI m) : ML iX10_taxis [(2, 0), (0, s), (0, day), (0, n)] m (fun r m1 => ML iX11_taxis [(2, 139), (0, s), (0, day), (0, n)] m1 (fun r' m2 => r = r' ∧ qOutP 1 m m2)) := by
  refine sX10_taxis (p_ask (s := s) (day := day) (n := n) (F := fun r m1 => ML iX11_taxis [(2, 139), (0, s), (0, day), (0, n)] m1 (fun r' m2 => r = r' ∧ qOutP 1 m m2)) (R := fun m11 => (0 ≤ s ∧ s < 3 ∧ ML iX11_taxis [(2, 139), (0, s), (0, day), (0, n)] m11 (fun r' m2 => m11 (64 + 14 * s) 6 = r' ∧ qOutP 1 m m2))) h hI (fun m1 hn o1 => ?_) (fun m1 hl s0 s1 g1 c1 hb => ?_) (fun m1 hl s0 s1 g1 c1 hb => ?_))
  · exact sX11_taxis (r_planOf h o1.2.1 (fun _ => ⟨fun w => absurd w (by decide), fun _ => ⟨rfl, o1⟩⟩) (fun m2 y0 y1 y2 => absurd ⟨y0, y1, y2⟩ hn))
  · refine sX11_taxis (r_planOf h g1.2.2.1 (fun y => absurd ⟨hl, s0, s1⟩ y) (fun m2 _ _ _ x2 P2 e1 e2 e3 e4 e5 => ?_))
    rw [if_pos hb]
    exact ⟨fun w => absurd w (by decide), fun _ => ⟨rfl, q_finP h hl g1 x2⟩⟩
  · obtain ⟨q, vk, vt, vd⟩ := lk_K h hl
    have hN := vt.1
    refine ⟨s0, by omega, sX11_taxis (r_planOf h g1.2.2.1 (fun y => absurd ⟨hl, s0, s1⟩ y) (fun m2 _ _ _ x2 P2 e1 e2 e3 e4 e5 => ?_))⟩
    rw [if_neg (by omega)]
    exact ⟨fun _ => ⟨by rw [c1.2.2.2, e4], q_finP h hl g1 x2⟩, fun w => absurd (by decide) w⟩
theorem p_routeSet {m : jM} {s day n j : Int} (h : qI m) (hI : plI m) : ML iX10_routeSet [(2, 0), (0, s), (0, day), (0, n), (0, j)] m (fun r m1 => ML iX11_routeSet [(2, 139), (0, s), (0, day), (0, n), (0, j)] m1 (fun r' m2 => r = r' ∧ qOutP 1 m m2)) := by
  refine sX10_routeSet (c_canPlan h hI (fun hn m1 o1 => ⟨fun _ => ?_, fun z => absurd rfl z⟩) (fun m1 hl s0 s1 g1 j1 c1 => ⟨fun z => absurd z (by decide), fun _ => ?_⟩))
  · exact sX11_routeSet (r_planOf h o1.2.1 (fun _ => ⟨fun _ => ⟨rfl, o1⟩, fun w => absurd (by decide) w⟩) (fun m2 y0 y1 y2 => absurd ⟨y0, y1, y2⟩ hn))
  · obtain ⟨q, vk, vt, vd⟩ := lk_K h hl
    have hN := vt.1
    rw [c1.2.2.1.1]
    have l6 := c1.2.2.1.2.1
    have ref : ∀ a : Int, (0 ≤ j → j < ((plR (vv m day n) s).1.length : Int) → a = fnL (plR (vv m day n) s).1 j) → (¬ (0 ≤ j ∧ j < ((plR (vv m day n) s).1.length : Int)) → a = -1) → ML iX11_routeSet [(2, 139), (0, s), (0, day), (0, n), (0, j)] m1 (fun r' m2 => a = r' ∧ qOutP 1 m m2) := by
      intro a a1 a2
      refine sX11_routeSet (r_planOf h g1.2.2.1 (fun y => absurd ⟨hl, s0, s1⟩ y) (fun m2 _ _ _ x2 P2 e1 e2 e3 e4 e5 => ?_))
      have out := q_finP h hl g1 x2
      by_cases hb : (tA (vv m day n) s (srv (vv m day n) s)).1.1 < 0
      · rw [if_pos hb]
        refine ⟨fun _ => ⟨a2 ?_, out⟩, fun w => absurd (by decide) w⟩
        have : plR (vv m day n) s = ([], 0) := by unfold plR; rw [if_pos hb]
        rw [this]
        simp only [List.length_nil]
        omega
      · rw [if_neg hb, e2]
        refine ⟨fun w => absurd w (by decide), fun _ => ⟨fun z => ⟨a2 (by omega), out⟩, fun z => ⟨fun z2 => ⟨by omega, by omega, ?_, out⟩, fun z2 => ⟨a2 (by omega), out⟩⟩⟩⟩
        rw [e3 j (by omega) z2]
        exact a1 (by omega) z2
    refine ⟨s0, by omega, sX10_within ⟨fun z => ⟨fun w => absurd rfl w, fun _ => ref _ (fun _ _ => by omega) (fun _ => rfl)⟩, fun z => ⟨fun z2 => ⟨fun w => absurd rfl w, fun _ => ref _ (fun _ _ => by omega) (fun _ => rfl)⟩, fun z2 => ⟨fun _ => ⟨s0, by omega, by omega, by omega, ?_⟩, fun w => absurd (by decide) w⟩⟩⟩⟩
    rw [c1.2.2.1.2.2 j (by omega) (by omega)]
    exact ref _ (fun _ _ => rfl) (fun w => absurd ⟨by omega, by omega⟩ w)
theorem p_fewest {m : jM} {s day n : Int} (h : qI m) (hI : plI m) : ML iX10_fewest [(2, 0), (0, s), (0, day), (0, n)] m (fun r m1 => ML iX11_fewest [(2, 139), (0, s), (0, day), (0, n)] m1 (fun r' m2 => r = r' ∧ qOutP 1 m m2)) := by
  refine sX10_fewest (c_canPlan h hI (fun hn m1 o1 => ⟨fun z => absurd rfl z, fun _ => ?_⟩) (fun m1 hl s0 s1 g1 j1 c1 => ⟨fun _ => ?_, fun z => absurd (by decide) z⟩))
  · exact sX11_fewest (r_isSchool h o1.2.1 (fun _ => ⟨fun w => absurd rfl w, fun _ => ⟨rfl, o1⟩⟩) (fun y0 y1 y2 => absurd ⟨y0, y1, y2⟩ hn))
  · obtain ⟨q, vk, vt, vd⟩ := lk_K h hl
    have hN := vt.1
    have so := srv_ok vt s
    have fw := tA_fw (V := vv m day n) (s := s) 64 (srv (vv m day n) s) (by omega) so.1 so.2.1
    have c6 := (cnt_nn (srv (vv m day n) s) 6).2
    have ref : ML iX11_fewest [(2, 139), (0, s), (0, day), (0, n)] m1 (fun r' m2 => (if (tA (vv m day n) s (srv (vv m day n) s)).2 = 99 then -2 else (tA (vv m day n) s (srv (vv m day n) s)).2) = r' ∧ qOutP 1 m m2) := by
      refine sX11_fewest (r_isSchool h g1.2.2.1 (fun y => absurd ⟨hl, s0, s1⟩ y) (fun _ _ _ => ⟨fun _ => ?_, fun w => absurd (by decide) w⟩))
      refine r_lay h hl g1.2.2.1 (fun m2 f2 x2 G2 => c_allRoutes (V := vv m day n) vk vt vd G2 s0 s1 (fun m3 f3 G3 S3 A3 => c_ridden vk vt G3 S3 (c_fewestR vk vt ⟨G3, S3, A3⟩ (fun m4 f4 => ⟨rfl, q_finP h hl g1 (rfx_tr x2 (rfx_tr (rfx_of f3 (by decide)) (rfx_of f4 (by decide))))⟩))))
    refine ⟨s0, by omega, sX3_fewestRoutes (jPl_i s0 (by omega)) ?_⟩
    rw [c1.1.1.2.1, (c1.2.1 _ so.1 so.2.1 (fun i _ _ w => w)).2.2]
    refine ⟨so.1, so.2.1, fun z => ⟨so.1, so.2.1, ?_⟩, fun z => ?_⟩
    · rw [if_neg (by omega)] at ref
      exact ref
    · rw [if_pos (by omega)] at ref
      exact ref

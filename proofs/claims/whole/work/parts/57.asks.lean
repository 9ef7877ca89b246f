/-! right, stop, dist, row, force, count -/
theorem p_right {m : jM} {c day n : Int} (h : qI m) : ML iX10_right [(2, 0), (0, c), (0, day), (0, n)] m (fun r m1 => ML iX11_right [(2, 139), (0, c), (0, day), (0, n)] m1 (fun r' m2 => r = r' ∧ qOut 1 m m2)) := by
  refine sX10_right (c_lookQ h (fun hn => ⟨fun _ => ?_, fun z => absurd rfl z⟩) (fun m1 hl g1 => ⟨fun z => absurd z (by decide), fun _ => ?_⟩))
  · exact sX11_right (r_isDay h agr_rf (fun _ => ⟨fun _ => ⟨rfl, qOut_rf h⟩, fun z => absurd rfl z⟩) (fun hl => absurd hl hn))
  · obtain ⟨q, vk, vt, vd⟩ := lk_K h hl
    have hkn := kn_nn m n h.1.1.1.2.2.1
    have hch := h.1.1.1.2.2.2
    refine k_knowsChild h hl g1.2.2.1 (fun hn => ⟨fun z => absurd rfl z, fun _ => ?_⟩) (fun c0 c1 => ⟨fun _ => ?_, fun z => absurd (by decide) z⟩)
    · exact sX11_right (r_isDay h g1.2.2.1 (fun z => absurd hl z) (fun _ => ⟨fun z => absurd z (by decide), fun _ => r_isKnownChild h g1.2.2.1 (fun _ => ⟨fun z => absurd rfl z, fun _ => ⟨rfl, q_fin h hl g1 rfx_rf⟩⟩) (fun c0 c1 => absurd ⟨c0, c1⟩ hn)⟩))
    · refine c_judge vk vt g1.1 c0 c1 (fun m2 f2 w2 b2 _ => ⟨c0, by omega, ?_⟩)
      have g2 := vG_jg h hl g1 f2 w2
      have j := w2.2.2.2.2.2 c c0 c1 b2
      rw [j.1]
      have go : ∀ x, x = (if vRgt (vv m day n) c = -1 then -2 else vRgt (vv m day n) c) → ML iX11_right [(2, 139), (0, c), (0, day), (0, n)] m2 (fun r' m3 => x = r' ∧ qOut 1 m m3) := by
        rintro x rfl
        exact sX11_right (r_isDay h g2.2.2.1 (fun z => absurd hl z) (fun _ => ⟨fun z => absurd z (by decide), fun _ => r_isKnownChild h g2.2.2.1 (fun z => absurd ⟨c0, c1⟩ z) (fun _ _ => ⟨fun _ => r_lay h hl g2.2.2.1 (fun m3 _ x3 G3 => c_rightOfR vk vt vd (rG_lI G3) G3.2.2.2.1 G3.2.2.2.2.1 G3.2.2.2.2.2 c0 c1 (fun m4 f4 => ⟨rfl, q_fin h hl g2 (rfx_tr x3 (rfx_of (frx_fr (K := []) f4) (by decide)))⟩)), fun z => absurd (by decide) z⟩)⟩))
      exact ⟨fun z => ⟨c0, by omega, go _ (by rw [if_neg z])⟩, fun z => go _ (by rw [if_pos (Classical.byContradiction z)])⟩
theorem p_stop {m : jM} {c day n : Int} (h : qI m) : ML iX10_stop [(2, 0), (0, c), (0, day), (0, n)] m (fun r m1 => ML iX11_stop [(2, 139), (0, c), (0, day), (0, n)] m1 (fun r' m2 => r = r' ∧ qOut 1 m m2)) := by
  refine sX10_stop (c_lookQ h (fun hn => ⟨fun _ => ?_, fun z => absurd rfl z⟩) (fun m1 hl g1 => ⟨fun z => absurd z (by decide), fun _ => ?_⟩))
  · exact sX11_stop (r_isDay h agr_rf (fun _ => ⟨fun _ => ⟨rfl, qOut_rf h⟩, fun z => absurd rfl z⟩) (fun hl => absurd hl hn))
  · obtain ⟨q, vk, vt, vd⟩ := lk_K h hl
    have hkn := kn_nn m n h.1.1.1.2.2.1
    have hch := h.1.1.1.2.2.2
    refine k_knowsChild h hl g1.2.2.1 (fun hn => ⟨fun z => absurd rfl z, fun _ => ?_⟩) (fun c0 c1 => ⟨fun _ => ?_, fun z => absurd (by decide) z⟩)
    · exact sX11_stop (r_isDay h g1.2.2.1 (fun z => absurd hl z) (fun _ => ⟨fun z => absurd z (by decide), fun _ => r_isKnownChild h g1.2.2.1 (fun _ => ⟨fun z => absurd rfl z, fun _ => ⟨rfl, q_fin h hl g1 rfx_rf⟩⟩) (fun c0 c1 => absurd ⟨c0, c1⟩ hn)⟩))
    · refine c_judge vk vt g1.1 c0 c1 (fun m2 f2 w2 b2 _ => ⟨c0, by omega, ?_⟩)
      have g2 := vG_jg h hl g1 f2 w2
      have j := w2.2.2.2.2.2 c c0 c1 b2
      rw [j.2]
      have go : ∀ x, x = (if vStp (vv m day n) c = -1 then -2 else vStp (vv m day n) c) → ML iX11_stop [(2, 139), (0, c), (0, day), (0, n)] m2 (fun r' m3 => x = r' ∧ qOut 1 m m3) := by
        rintro x rfl
        exact sX11_stop (r_isDay h g2.2.2.1 (fun z => absurd hl z) (fun _ => ⟨fun z => absurd z (by decide), fun _ => r_isKnownChild h g2.2.2.1 (fun z => absurd ⟨c0, c1⟩ z) (fun _ _ => ⟨fun _ => r_lay h hl g2.2.2.1 (fun m3 _ x3 G3 => c_stopOfR vk vt vd (rG_lI G3) G3.2.2.2.1 G3.2.2.2.2.1 G3.2.2.2.2.2 c0 c1 (fun m4 f4 => ⟨rfl, q_fin h hl g2 (rfx_tr x3 (rfx_of (frx_fr (K := []) f4) (by decide)))⟩)), fun z => absurd (by decide) z⟩)⟩))
      exact ⟨fun z => ⟨c0, by omega, go _ (by rw [if_neg z])⟩, fun z => go _ (by rw [if_pos (Classical.byContradiction z)])⟩
theorem c_canMeasure {m : jM} {Q : Int → jM → Prop} {a b c : Int} (hno : ¬ (0 ≤ a ∧ a < 12 ∧ 0 ≤ b ∧ b < 12 ∧ 0 ≤ c ∧ c < 3) → Q 0 m) (hQ : 0 ≤ a → a < 12 → 0 ≤ b → b < 12 → 0 ≤ c → c < 3 → Q 1 m) : ML iX10_canMeasure [(0, a), (0, b), (0, c)] m Q := by
  refine sX10_canMeasure ?_
  repeat' (first
    | refine v_if (fun h => absurd h (by decide)) (fun _ => ?_)
    | refine v_if (fun _ => ?_) (fun h => absurd (by decide) h)
    | refine v_if (fun _ => ?_) (fun _ => ?_)
    | refine v_bd (by omega) (by omega) ?_
    | refine v_b0 ?_
    | refine v_b1 ?_
    | refine sX10_within ?_)
  all_goals first
    | exact hno (by omega)
    | exact hQ (by omega) (by omega) (by omega) (by omega) (by omega) (by omega)
theorem r_isDist {m m1 : jM} {Q : Int → jM → Prop} {a b c day n : Int} (h : qI m) (ha : agr kpD kpF m m1) (hno : ¬ (lkK m day n ∧ 0 ≤ a ∧ a < 12 ∧ 0 ≤ b ∧ b < 12 ∧ 0 ≤ c ∧ c < 3) → Q 0 m1) (hQ : lkK m day n → 0 ≤ a → a < 12 → 0 ≤ b → b < 12 → 0 ≤ c → c < 3 → Q 1 m1) : ML iX11_isDist [(2, 139), (0, a), (0, b), (0, c), (0, day), (0, n)] m1 Q := by
  refine sX11_isDist (r_isDay h ha (fun z => ⟨fun _ => hno (fun y => z y.1), fun z => absurd rfl z⟩) (fun hl => ⟨fun z => absurd z (by decide), fun _ => ?_⟩))
  repeat' (first
    | refine v_if (fun h => absurd h (by decide)) (fun _ => ?_)
    | refine v_if (fun _ => ?_) (fun h => absurd (by decide) h)
    | refine v_if (fun _ => ?_) (fun _ => ?_)
    | refine v_bd (by omega) (by omega) ?_
    | refine v_b0 ?_
    | refine v_b1 ?_
    | refine sX11_isIn ?_)
  all_goals first
    | exact hno (by omega)
    | exact hQ hl (by omega) (by omega) (by omega) (by omega) (by omega) (by omega)
theorem p_dist {m : jM} {a b c day n : Int} (h : qI m) : ML iX10_dist [(2, 0), (0, a), (0, b), (0, c), (0, day), (0, n)] m (fun r m1 => ML iX11_dist [(2, 139), (0, a), (0, b), (0, c), (0, day), (0, n)] m1 (fun r' m2 => r = r' ∧ qOut 1 m m2)) := by
  have no : ¬ (lkK m day n ∧ 0 ≤ a ∧ a < 12 ∧ 0 ≤ b ∧ b < 12 ∧ 0 ≤ c ∧ c < 3) → ML iX11_dist [(2, 139), (0, a), (0, b), (0, c), (0, day), (0, n)] m (fun r' m2 => -1 = r' ∧ qOut 1 m m2) := fun hn => sX11_dist (r_isDist h agr_rf (fun _ => ⟨fun z => absurd rfl z, fun _ => ⟨rfl, qOut_rf h⟩⟩) (fun z0 z1 z2 z3 z4 z5 z6 => absurd ⟨z0, z1, z2, z3, z4, z5, z6⟩ hn))
  refine sX10_dist (c_canMeasure (fun hn => ⟨fun _ => no (fun z => hn z.2), fun z => absurd rfl z⟩) (fun a0 a1 b0 b1 c0 c1 => ⟨fun z => absurd z (by decide), fun _ => c_lookQ h (fun hn => ⟨fun z => absurd rfl z, fun _ => no (fun z => hn z.1)⟩) (fun m1 hl g1 => ⟨fun _ => ?_, fun z => absurd (by decide) z⟩)⟩))
  obtain ⟨q, vk, vt, vd⟩ := lk_K h hl
  refine c_sumOf vt g1.1.2.1 c0 c1 (fun m2 f2 b2 => ?_)
  have g2 := vG_sums h hl g1 b2 f2
  have d1 := vD_ge vt c a b
  have d2 := vD_le vt c a b
  have go : ∀ x, x = (if vD (vv m day n) c a b = -1 then -2 else vD (vv m day n) c a b) → ML iX11_dist [(2, 139), (0, a), (0, b), (0, c), (0, day), (0, n)] m2 (fun r' m3 => x = r' ∧ qOut 1 m m3) := by
    rintro x rfl
    refine sX11_dist (r_isDist h g2.2.2.1 (fun z => absurd ⟨hl, a0, a1, b0, b1, c0, c1⟩ z) (fun _ _ _ _ _ _ _ => ⟨fun _ => r_lay h hl g2.2.2.1 (fun m3 _ x3 G3 => c_leastV G3 c0 c1 a0 a1 b0 b1 ⟨fun z => c_leastV G3 c0 c1 a0 a1 b0 b1 ⟨by rw [if_neg (by omega)], q_fin h hl g2 x3⟩, fun z => ⟨by rw [if_pos (by omega)], q_fin h hl g2 x3⟩⟩), fun z => absurd (by decide) z⟩))
  unfold enc
  refine ⟨fun z => go _ ?_, fun z => go _ ?_⟩
  · split at z
    · omega
    · rename_i e; rw [if_neg e, if_neg e]
  · split at z
    · rename_i e; rw [if_pos e]
    · omega
theorem p_row {m : jM} {a b c day n i : Int} (h : qI m) : ML iX10_row [(2, 0), (0, a), (0, b), (0, c), (0, day), (0, n), (0, i)] m (fun r m1 => ML iX11_row [(2, 139), (0, a), (0, b), (0, c), (0, day), (0, n), (0, i)] m1 (fun r' m2 => r = r' ∧ qOut 1 m m2)) := by
  have no : ¬ (lkK m day n ∧ 0 ≤ a ∧ a < 12 ∧ 0 ≤ b ∧ b < 12 ∧ 0 ≤ c ∧ c < 3) → ML iX11_row [(2, 139), (0, a), (0, b), (0, c), (0, day), (0, n), (0, i)] m (fun r' m2 => -1 = r' ∧ qOut 1 m m2) := fun hn => sX11_row (r_isDist h agr_rf (fun _ => ⟨fun _ => ⟨rfl, qOut_rf h⟩, fun z => absurd rfl z⟩) (fun z0 z1 z2 z3 z4 z5 z6 => absurd ⟨z0, z1, z2, z3, z4, z5, z6⟩ hn))
  refine sX10_row (c_canMeasure (fun hn => ⟨fun _ => no (fun z => hn z.2), fun z => absurd rfl z⟩) (fun a0 a1 b0 b1 c0 c1 => ⟨fun z => absurd z (by decide), fun _ => c_lookQ h (fun hn => ⟨fun z => absurd rfl z, fun _ => no (fun z => hn z.1)⟩) (fun m1 hl g1 => ⟨fun _ => ?_, fun z => absurd (by decide) z⟩)⟩))
  obtain ⟨q, vk, vt, vd⟩ := lk_K h hl
  refine c_placeInRow vt g1.1.2.1 c0 c1 (fun m2 f2 b2 => ?_)
  have g2 := vG_sums h hl g1 b2 f2
  have d1 := vD_ge vt c a b
  refine sX11_row (r_isDist h g2.2.2.1 (fun z => absurd ⟨hl, a0, a1, b0, b1, c0, c1⟩ z) (fun _ _ _ _ _ _ _ => ⟨fun z => absurd z (by decide), fun _ => ⟨fun i0 => r_lay h hl g2.2.2.1 (fun m3 _ x3 G3 => c_leastV G3 c0 c1 a0 a1 b0 b1 ⟨fun z => c_rowR vt G3 c0 c1 b0 b1 i0 (by omega) ⟨by rw [if_pos ⟨i0, by omega⟩], q_fin h hl g2 x3⟩, fun z => ⟨by rw [if_neg (by omega)], q_fin h hl g2 x3⟩⟩), fun z => ⟨by rw [if_neg (by omega)], q_fin h hl g2 rfx_rf⟩⟩⟩))
theorem p_force {m : jM} {day : Int} (h : txInv m) : ML iX10_force [(2, 0), (0, day)] m (fun r m1 => ML iX11_force [(2, 139), (0, day)] m1 (fun r' m2 => r = r' ∧ m2 = m)) := by
  have xt := h.1
  exact sX10_force (c_inForce xt.1 xt.2.1 xt.2.2 (fun j j0 j1 => (h.2 j j0 j1).1) (c_force xt.1 xt.2.1 ⟨rfl, rfl⟩))
theorem p_place {m : jM} (h : m 0 11 = m 139 9) : ML iX10_place [(2, 0)] m (fun r m1 => ML iX11_place [(2, 139)] m1 (fun r' m2 => r = r' ∧ m2 = m)) := sX10_place (sX11_place ⟨h, rfl⟩)
theorem jdv10 : ∀ c : Fin 50, jdiv ((c : Nat) : Int) 10 = ((c : Nat) : Int) / 10 ∧ jrem ((c : Nat) : Int) 10 = ((c : Nat) : Int) % 10 := by decide +kernel
theorem jdiv_ge {a : Int} (ha : -2147483648 ≤ a ∧ a ≤ 2147483647) (h : 0 ≤ a) : jdiv a 10 = a / 10 := by
  unfold jdiv
  have e1 : (Int32.ofInt a).toInt = a := j_i ⟨fun _ => ha, fun h => (by cases h)⟩
  rw [Int32.toInt_div_of_ne_right _ _ (by decide), e1]
  show Int.tdiv a 10 = a / 10
  exact Int.tdiv_eq_ediv_of_nonneg h
theorem p_count {m : jM} {a : Int} (ha : -2147483648 ≤ a ∧ a ≤ 2147483647) (h1 : tpInv m) (h2 : fcInv m) (h3 : snInv m) (h4 : m 120 0 = m 139 52) (h5 : m 127 0 = m 139 56) (h : txInv m) : ML iX10_count [(2, 0), (0, a)] m (fun r m1 => ML iX11_count [(2, 139), (0, a)] m1 (fun r' m2 => r = r' ∧ m2 = m)) := by
  have xt := h.1
  have e1 : m 13 0 = m 139 44 := h2.2.1
  have e2 : m 13 1 = m 139 50 := h2.2.2.1
  have e3 : m 133 0 = m 139 60 := h3.2.1
  have e0 : m 2 1 = m 139 0 := h1.1
  by_cases hs : 0 ≤ a ∧ a ≤ 6
  · have ref : ∀ x : Int, (a = 0 → x = m 139 12) → (a = 1 → x = m 139 44) → (a = 2 → x = m 139 50) → (a = 3 → x = m 139 52) → (a = 4 → x = m 139 56) → (a = 5 → x = m 139 60) → (a = 6 → x = m 139 0) → ML iX11_count [(2, 139), (0, a)] m (fun r' m2 => x = r' ∧ m2 = m) := fun x x0 x1 x2 x3 x4 x5 x6 => sX11_count ⟨fun z => ⟨x0 z, rfl⟩, fun z => ⟨x1 z, rfl⟩, fun z => ⟨x2 z, rfl⟩, fun z => ⟨x3 z, rfl⟩, fun z => ⟨x4 z, rfl⟩, fun z => ⟨x5 z, rfl⟩, fun z => ⟨x6 z, rfl⟩, fun z => by omega⟩
    refine sX10_count ⟨fun z => ref _ ?_ ?_ ?_ ?_ ?_ ?_ ?_, fun z => ref _ ?_ ?_ ?_ ?_ ?_ ?_ ?_, fun z => ref _ ?_ ?_ ?_ ?_ ?_ ?_ ?_, fun z => ref _ ?_ ?_ ?_ ?_ ?_ ?_ ?_, fun z => ref _ ?_ ?_ ?_ ?_ ?_ ?_ ?_, fun z => ref _ ?_ ?_ ?_ ?_ ?_ ?_ ?_, fun z => ref _ ?_ ?_ ?_ ?_ ?_ ?_ ?_, fun z => by omega⟩ <;> omega
  · by_cases hb : 10 ≤ a ∧ a ≤ 49
    · have jd := jdv10 ⟨a.toNat, by omega⟩
      simp only [Int.toNat_of_nonneg (show 0 ≤ a by omega)] at jd
      have lo : ML iX11_count [(2, 139), (0, a)] m (fun r' m2 => (if a % 10 < m 139 12 then (if a < 20 then m 147 (a % 10) else if a < 30 then m 148 (a % 10) else if a < 40 then m 157 (a % 10) else m 159 (a % 10)) else -1) = r' ∧ m2 = m) := by
        refine sX11_count ⟨fun z => by omega, fun z => by omega, fun z => by omega, fun z => by omega, fun z => by omega, fun z => by omega, fun z => by omega, fun _ => sX11_countOf ?_⟩
        rw [jd.2]
        refine ⟨fun z => by omega, fun _ => ⟨fun z => by omega, fun _ => ⟨fun z => ?_, fun z => ⟨by rw [if_neg z], rfl⟩⟩⟩⟩
        rw [if_pos z]
        refine ⟨fun y1 => ⟨fun y2 => ⟨fun y3 => ⟨by omega, by omega, ?_, rfl⟩, fun y3 => ⟨by omega, by omega, ?_, rfl⟩⟩, fun y2 => ⟨by omega, by omega, ?_, rfl⟩⟩, fun y1 => ⟨by omega, by omega, ?_, rfl⟩⟩
        · rw [if_neg (by omega), if_neg (by omega), if_neg (by omega)]
        · rw [if_neg (by omega), if_neg (by omega), if_pos (by omega)]
        · rw [if_neg (by omega), if_pos (by omega)]
        · rw [if_pos (by omega)]
      refine sX10_count ⟨fun z => by omega, fun z => by omega, fun z => by omega, fun z => by omega, fun z => by omega, fun z => by omega, fun z => by omega, fun _ => ⟨fun _ => sX10_countInText ?_, fun z => by omega⟩⟩
      rw [jd.1, jd.2, xt.2.2]
      refine sX10_within ⟨fun z => by omega, fun z0 => ⟨fun z => ⟨fun y => absurd rfl y, fun _ => ?_⟩, fun z => ⟨fun _ => ?_, fun y => absurd (by decide) y⟩⟩⟩
      · rw [if_neg (by omega)] at lo
        exact lo
      · have kt := (h.2 (a % 10) (by omega) (by omega)).2.2.2.1.2.1
        have s0 : m (27 + 12 * (a % 10)) 1 = m 147 (a % 10) := kt.1
        have s1 : m (27 + 12 * (a % 10)) 2 = m 148 (a % 10) := kt.2.1
        have s2 : m (27 + 12 * (a % 10)) 11 = m 157 (a % 10) := kt.2.2.2.1
        have s3 : m (27 + 12 * (a % 10)) 13 = m 159 (a % 10) := kt.2.2.2.2
        rw [if_pos (by omega)] at lo
        rw [s0, s1, s2, s3]
        refine ⟨fun y => ⟨by omega, by omega, ?_⟩, fun y => ⟨by omega, by omega, ?_⟩, fun y => ⟨by omega, by omega, ?_⟩, fun y => ⟨by omega, by omega, ?_⟩, fun y => by omega⟩
        · rw [if_pos (by omega)] at lo; exact lo
        · rw [if_neg (by omega), if_pos (by omega)] at lo; exact lo
        · rw [if_neg (by omega), if_neg (by omega), if_pos (by omega)] at lo; exact lo
        · rw [if_neg (by omega), if_neg (by omega), if_neg (by omega)] at lo; exact lo
    · have lo : ML iX11_count [(2, 139), (0, a)] m (fun r' m2 => -1 = r' ∧ m2 = m) := sX11_count ⟨fun z => by omega, fun z => by omega, fun z => by omega, fun z => by omega, fun z => by omega, fun z => by omega, fun z => by omega, fun _ => sX11_countOf ⟨fun _ => ⟨rfl, rfl⟩, fun z => ⟨fun _ => ⟨rfl, rfl⟩, fun z2 => by omega⟩⟩⟩
      refine sX10_count ⟨fun z => by omega, fun z => by omega, fun z => by omega, fun z => by omega, fun z => by omega, fun z => by omega, fun z => by omega, fun _ => ⟨fun z => sX10_countInText ?_, fun _ => lo⟩⟩
      rw [jdiv_ge ha (by omega)]
      have hd : 5 ≤ a / 10 := by omega
      refine sX10_within ⟨fun _ => ⟨fun y => absurd rfl y, fun _ => lo⟩, fun _ => ⟨fun _ => ⟨fun y => absurd rfl y, fun _ => lo⟩, fun _ => ⟨fun _ => ⟨fun y => by omega, fun y => by omega, fun y => by omega, fun y => by omega, fun _ => lo⟩, fun y => absurd (by decide) y⟩⟩⟩

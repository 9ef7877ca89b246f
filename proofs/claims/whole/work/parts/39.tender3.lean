/-! the tender: the calls of both -/
def teD (m : jM) : jM := res [180, 181, 182] [(139, 52)] m
theorem teD_e (m : jM) : teD m 139 52 = m 139 52 ∧ teD m 180 = m 180 ∧ teD m 181 = m 181 ∧ teD m 182 = m 182 := ⟨res_at _ _ rfl, res_row _ rfl, res_row _ rfl, res_row _ rfl⟩
theorem teK_D {m : jM} : teK (teD m) ↔ teK m := by
  obtain ⟨e1, e2, e3, e4⟩ := teD_e m
  unfold teK
  rw [e1, e2, e3, e4]
theorem teC_D {m m' : jM} : teC (teD m) m' ↔ teC m m' := by
  obtain ⟨e1, e2, e3, e4⟩ := teD_e m
  unfold teC
  rw [e1, e2, e3, e4]
def teInv (m : jM) : Prop := teK (teD m) ∧ teC (teD m) m ∧ (m 120 7 = 0 ∨ teS (teD m) m (m 120 7) (m 120 8))
abbrev teDp : List Int := [120, 121, 122, 123, 124, 125, 180, 181, 182]
abbrev teDf : List (Int × Int) := [(139, 52)]
theorem teD_cg {m m' : jM} (h1 : m' 139 52 = m 139 52) (h2 : m' 180 = m 180) (h3 : m' 181 = m 181) (h4 : m' 182 = m 182) : teD m' = teD m := res_cg ⟨by
  intro p hp
  simp only [List.mem_cons, List.not_mem_nil, or_false] at hp
  rcases hp with rfl | rfl | rfl
  · exact h2
  · exact h3
  · exact h4, by
  intro q hq
  simp only [List.mem_cons, List.not_mem_nil, or_false] at hq
  rw [hq]
  exact h1⟩
theorem teInv_cg {m m' : jM} (h : agr teDp teDf m m') (hx : teInv m) : teInv m' := by
  have e := teD_cg (agr_at h 139 52 (by decide)) (agr_row h 180 (by decide)) (agr_row h 181 (by decide)) (agr_row h 182 (by decide))
  unfold teInv at *
  rw [e]
  unfold teC teS at *
  rw [agr_row h 120 (by decide), agr_row h 121 (by decide), agr_row h 122 (by decide), agr_row h 123 (by decide), agr_row h 124 (by decide), agr_row h 125 (by decide)]
  exact hx
theorem teR_D (m : jM) {m' : jM} (h1 : m' 139 52 = m 139 52) (h2 : m' 180 = m 180) (h3 : m' 181 = m 181) (h4 : m' 182 = m 182) : teR (teD m) m' := by
  obtain ⟨e1, e2, e3, e4⟩ := teD_e m
  exact ⟨h1.trans e1.symm, h2.trans e2.symm, h3.trans e3.symm, h4.trans e4.symm⟩
abbrev teFr : List Int := [120, 121, 125, 126, 215]
theorem teInv_after {m m2 : jM} {k w : Int} (h : teInv m) (hf : frx teFr [] m m2) (ht : m2 120 0 = m 120 0) (h7 : m2 120 7 = k) (h8 : m2 120 8 = w) (hs : teS (teD m) m2 k w) : teInv m2 := by
  have e : teD m2 = teD m := teD_cg (hf _ _ (by decide) (by decide)) (frx_row hf _ (by decide) (by decide)) (frx_row hf _ (by decide) (by decide)) (frx_row hf _ (by decide) (by decide))
  refine ⟨by rw [e]; exact h.1, ?_, Or.inr (by rw [e, h7, h8]; exact hs)⟩
  rw [e]
  exact teC_fr ht (frx_row hf _ (by decide) (by decide)) (frx_row hf _ (by decide) (by decide)) (frx_row hf _ (by decide) (by decide)) h.2.1
/-- the class's solve, then a call of the reference that writes awards alone -/
theorem te_mid {m m1 m2 : jM} {k w : Int} (h : teInv m) (hf : frx [121, 125, 126] [(120, 7), (120, 8)] m m1) (h7 : m1 120 7 = k) (h8 : m1 120 8 = w) (hS : teS (teD m) m1 k w) (hf2 : fr [215] m1 m2) : teInv m2 ∧ frx teFr [] m m2 := by
  have hfx : frx teFr [] m m2 := frx_tr (frx_mono hf (by decide) (by decide)) (frx_mono (frx_fr (K := []) hf2) (by decide) (by decide))
  refine ⟨teInv_after (k := k) (w := w) h hfx ?_ ?_ ?_ ?_, hfx⟩
  · rw [hf2 120 (by decide)]; exact hf 120 0 (by decide) (by decide)
  · rw [hf2 120 (by decide)]; exact h7
  · rw [hf2 120 (by decide)]; exact h8
  · unfold teS at hS ⊢
    rw [hf2 121 (by decide), hf2 125 (by decide)]
    exact hS
theorem p_award {m : jM} {k w : Int} (h : teInv m) : ML iX10_award [(2, 0), (0, k), (0, w)] m (fun r m1 => ML iX11_award [(2, 139), (0, k), (0, w)] m1 (fun r' m2 => r = r' ∧ teInv m2 ∧ frx teFr [] m m2)) := by
  have hr0 := teR_D m (m' := m) rfl rfl rfl rfl
  by_cases hk : 1 ≤ k ∧ k ≤ 10 ∧ -1 ≤ w ∧ w ≤ 5
  · obtain ⟨k0, k1, w0, w1⟩ := hk
    obtain ⟨ea, a1, a2⟩ := te_all k0 k1
    have hgo : ML iX7_solve [(2, 120), (0, k), (0, w)] m (fun _ m17 => 0 ≤ jw (jshl 1 k - 1) ∧ jw (jshl 1 k - 1) < 1024 ∧ (m17 121 (jw (jshl 1 k - 1)) < 268435456 → ML iX11_award [(2, 139), (0, k), (0, w)] m17 (fun r' m2 => m17 121 (jw (jshl 1 k - 1)) = r' ∧ teInv m2 ∧ frx teFr [] m m2)) ∧ (¬ (m17 121 (jw (jshl 1 k - 1)) < 268435456) → ML iX11_award [(2, 139), (0, k), (0, w)] m17 (fun r' m2 => -2 = r' ∧ teInv m2 ∧ frx teFr [] m m2))) := by
      rw [ea]
      refine c_solveT h.1 h.2.1 h.2.2 k0 k1 w0 w1 (fun m1 hf h7 h8 hS => ?_)
      have hb := teA_b h.1 (w := w) (l := 2 ^ k.toNat - 1) (by omega) a2
      obtain ⟨-, -, -, -, R, hall, hcl, hR⟩ := id hS
      have e := (hR _ a1 (Int.le_refl _) hall).1
      have hr := teR_D m (m' := m1) (hf _ _ (by decide) (by decide)) (frx_row hf _ (by decide) (by decide)) (frx_row hf _ (by decide) (by decide)) (frx_row hf _ (by decide) (by decide))
      rw [e]
      have ref : ∀ r, r = (if teA (teD m) w (2 ^ k.toNat - 1) = -1 then -2 else teA (teD m) w (2 ^ k.toNat - 1)) → ML iX11_award [(2, 139), (0, k), (0, w)] m1 (fun r' m2 => r = r' ∧ teInv m2 ∧ frx teFr [] m m2) := fun r hr2 => c_award h.1 hr (fun z => absurd ⟨k0, k1, w0, w1⟩ z) (fun m2 _ _ _ _ hf2 _ => ⟨hr2, te_mid h hf h7 h8 hS hf2⟩)
      unfold enc
      refine ⟨by omega, by omega, fun c => ref _ ?_, fun c => ref _ ?_⟩
      · split at c
        · omega
        · rename_i z
          rw [if_neg z, if_neg z]
      · split at c
        · rename_i z
          rw [if_pos z]
        · omega
    exact sX10_award (sX10_isRouteCount ⟨fun c => absurd c (by omega), fun _ => ⟨fun c => absurd c (by omega), fun _ => ⟨fun c => absurd c (by decide), fun _ => sX10_isFirmOrNone ⟨fun _ => ⟨fun _ => hgo, fun c => absurd (by decide) c⟩, fun c => sX10_within ⟨fun c => absurd c (by omega), fun _ => ⟨fun c => absurd c (by omega), fun _ => ⟨fun c => absurd c (by decide), fun _ => ⟨fun _ => hgo, fun c => absurd (by decide) c⟩⟩⟩⟩⟩⟩⟩⟩)
  · have k2 : ML iX11_award [(2, 139), (0, k), (0, w)] m (fun r' m2 => -1 = r' ∧ teInv m2 ∧ frx teFr [] m m2) := c_award h.1 hr0 (fun _ => ⟨rfl, h, frx_rf⟩) (fun m' a b c d => absurd ⟨a, b, c, d⟩ hk)
    exact sX10_award (sX10_isRouteCount ⟨fun c => ⟨fun _ => k2, fun z => absurd rfl z⟩, fun _ => ⟨fun c => ⟨fun _ => k2, fun z => absurd rfl z⟩, fun _ => ⟨fun c => absurd c (by decide), fun _ => sX10_isFirmOrNone ⟨fun _ => absurd (by omega) hk, fun c => sX10_within ⟨fun c => ⟨fun _ => ⟨fun z => absurd rfl z, fun _ => k2⟩, fun z => absurd rfl z⟩, fun _ => ⟨fun c => ⟨fun _ => ⟨fun z => absurd rfl z, fun _ => k2⟩, fun z => absurd rfl z⟩, fun _ => absurd (by omega) hk⟩⟩⟩⟩⟩⟩)
theorem p_awarded {m : jM} {k w c : Int} (h : teInv m) : ML iX10_awarded [(2, 0), (0, k), (0, w), (0, c)] m (fun r m1 => ML iX11_awarded [(2, 139), (0, k), (0, w), (0, c)] m1 (fun r' m2 => r = r' ∧ teInv m2 ∧ frx teFr [] m m2)) := by
  have hr0 := teR_D m (m' := m) rfl rfl rfl rfl
  by_cases hk : 1 ≤ k ∧ k ≤ 10 ∧ -1 ≤ w ∧ w ≤ 5 ∧ 0 ≤ c ∧ c < k
  · obtain ⟨k0, k1, w0, w1, c0, c1⟩ := hk
    have hgo : ML iX7_solve [(2, 120), (0, k), (0, w)] m (fun _ m25 => ML iX7_bidOn [(2, 120), (0, c), (0, k)] m25 (fun r29 m30 => ML iX11_awarded [(2, 139), (0, k), (0, w), (0, c)] m30 (fun r' m2 => r29 = r' ∧ teInv m2 ∧ frx teFr [] m m2))) := by
      refine c_solveT h.1 h.2.1 h.2.2 k0 k1 w0 w1 (fun m1 hf h7 h8 hS => ?_)
      have hc1 : teC (teD m) m1 := teC_fr (hf 120 0 (by decide) (by decide)) (frx_row hf _ (by decide) (by decide)) (frx_row hf _ (by decide) (by decide)) (frx_row hf _ (by decide) (by decide)) h.2.1
      have hr := teR_D m (m' := m1) (hf _ _ (by decide) (by decide)) (frx_row hf _ (by decide) (by decide)) (frx_row hf _ (by decide) (by decide)) (frx_row hf _ (by decide) (by decide))
      exact c_bidOn h.1 hc1 hS c0 c1 (c_awarded h.1 hr (fun m2 _ z => absurd ⟨k0, k1, w0, w1, c0, c1⟩ z) (fun m2 _ _ _ _ _ _ hf2 => ⟨rfl, te_mid h hf h7 h8 hS hf2⟩))
    exact sX10_awarded (sX10_isRouteCount ⟨fun c => absurd c (by omega), fun _ => ⟨fun c => absurd c (by omega), fun _ => ⟨fun c => absurd c (by decide), fun _ => sX10_isFirmOrNone ⟨fun _ => ⟨fun c => absurd c (by decide), fun _ => sX10_within ⟨fun c => absurd c (by omega), fun _ => ⟨fun c => absurd c (by omega), fun _ => ⟨fun _ => hgo, fun c => absurd (by decide) c⟩⟩⟩⟩, fun c => sX10_within ⟨fun c => absurd c (by omega), fun _ => ⟨fun c => absurd c (by omega), fun _ => ⟨fun c => absurd c (by decide), fun _ => ⟨fun c => absurd c (by decide), fun _ => sX10_within ⟨fun c => absurd c (by omega), fun _ => ⟨fun c => absurd c (by omega), fun _ => ⟨fun _ => hgo, fun c => absurd (by decide) c⟩⟩⟩⟩⟩⟩⟩⟩⟩⟩⟩)
  · have k2 : ML iX11_awarded [(2, 139), (0, k), (0, w), (0, c)] m (fun r' m2 => -1 = r' ∧ teInv m2 ∧ frx teFr [] m m2) := c_awarded h.1 hr0 (fun m2 hf2 _ => by
        have hfx : frx teFr [] m m2 := frx_mono (frx_fr (K := []) hf2) (by decide) (by decide)
        exact ⟨rfl, teInv_cg (agr_of (frx_fr (K := []) hf2) (by decide)) h, hfx⟩) (fun m' a b c d e f => absurd ⟨a, b, c, d, e, f⟩ hk)
    have w2 : ¬ (0 ≤ c ∧ c < k) → ML iX10_within [(0, c), (0, k)] m (fun r17 m18 => (r17 ≠ 0 → ML iX7_solve [(2, 120), (0, k), (0, w)] m18 (fun _ m25 => ML iX7_bidOn [(2, 120), (0, c), (0, k)] m25 (fun r29 m30 => ML iX11_awarded [(2, 139), (0, k), (0, w), (0, c)] m30 (fun r' m2 => r29 = r' ∧ teInv m2 ∧ frx teFr [] m m2)))) ∧ (¬ (r17 ≠ 0) → ML iX11_awarded [(2, 139), (0, k), (0, w), (0, c)] m18 (fun r' m2 => -1 = r' ∧ teInv m2 ∧ frx teFr [] m m2))) := fun hn => sX10_within ⟨fun c => ⟨fun z => absurd rfl z, fun _ => k2⟩, fun _ => ⟨fun c => ⟨fun z => absurd rfl z, fun _ => k2⟩, fun _ => absurd (by omega) hn⟩⟩
    exact sX10_awarded (sX10_isRouteCount ⟨fun c => ⟨fun _ => k2, fun z => absurd rfl z⟩, fun _ => ⟨fun c => ⟨fun _ => k2, fun z => absurd rfl z⟩, fun _ => ⟨fun c => absurd c (by decide), fun _ => sX10_isFirmOrNone ⟨fun _ => ⟨fun c => absurd c (by decide), fun _ => w2 (by omega)⟩, fun c => sX10_within ⟨fun c => ⟨fun _ => ⟨fun _ => k2, fun z => absurd rfl z⟩, fun z => absurd rfl z⟩, fun _ => ⟨fun c => ⟨fun _ => ⟨fun _ => k2, fun z => absurd rfl z⟩, fun z => absurd rfl z⟩, fun _ => ⟨fun c => absurd c (by decide), fun _ => ⟨fun c => absurd c (by decide), fun _ => w2 (by omega)⟩⟩⟩⟩⟩⟩⟩⟩)
theorem teInv_mk {m : jM} (hk : teK m) (hc : teC m m) (h7 : m 120 7 = 0) : teInv m := ⟨teK_D.mpr hk, teC_D.mpr hc, Or.inl h7⟩
abbrev teUp : List Int := [120, 122, 123, 124, 180, 181, 182]
theorem p_bid {m : jM} {a b c : Int} (h : teInv m) : ML iX10_bid [(2, 0), (0, a), (0, b), (0, c)] m (fun r m1 => ML iX11_bid [(2, 139), (0, a), (0, b), (0, c)] m1 (fun r' m2 => r = r' ∧ teInv m2 ∧ frx teUp [(139, 52)] m m2)) := by
  have hk := teK_D.mp h.1
  have hc := teC_D.mp h.2.1
  have k0 := hk.1
  have k1 := hk.2.1
  have hno : ¬ (0 ≤ a ∧ a < 6 ∧ 1 ≤ b ∧ b < 1024 ∧ 0 ≤ c ∧ c < 10000 ∧ m 139 52 < 20) → ML iX11_bid [(2, 139), (0, a), (0, b), (0, c)] m (fun r' m2 => -1 = r' ∧ teInv m2 ∧ frx teUp [(139, 52)] m m2) := by
    intro hn
    have fin : (-1 : Int) = -1 ∧ teInv m ∧ frx teUp [(139, 52)] m m := ⟨rfl, h, frx_rf⟩
    exact sX11_bid ⟨fun _ => fin, fun q1 => sX11_isIn ⟨fun _ => ⟨fun _ => fin, fun z => absurd rfl z⟩, fun q2 => ⟨fun _ => ⟨fun _ => fin, fun z => absurd rfl z⟩, fun q3 => ⟨fun z => absurd z (by decide), fun _ => sX11_isIn ⟨fun _ => ⟨fun _ => fin, fun z => absurd rfl z⟩, fun q4 => ⟨fun _ => ⟨fun _ => fin, fun z => absurd rfl z⟩, fun q5 => ⟨fun z => absurd z (by decide), fun _ => sX11_isIn ⟨fun _ => ⟨fun z => absurd rfl z, fun _ => fin⟩, fun q6 => ⟨fun _ => ⟨fun z => absurd rfl z, fun _ => fin⟩, fun q7 => absurd (by omega) hn⟩⟩⟩⟩⟩⟩⟩⟩⟩
  refine sX10_bid (sX10_within ⟨fun q => ⟨fun _ => hno (by omega), fun z => absurd rfl z⟩, fun q1 => ⟨fun q => ⟨fun _ => hno (by omega), fun z => absurd rfl z⟩, fun q2 => ⟨fun z => absurd z (by decide), fun _ => ⟨fun q => hno (by omega), fun q3 => sX10_within ⟨fun q => ⟨fun _ => hno (by omega), fun z => absurd rfl z⟩, fun q4 => ⟨fun q => ⟨fun _ => hno (by omega), fun z => absurd rfl z⟩, fun q5 => ⟨fun z => absurd z (by decide), fun _ => sX10_within ⟨fun q => ⟨fun z => absurd rfl z, fun _ => hno (by omega)⟩, fun q6 => ⟨fun q => ⟨fun z => absurd rfl z, fun _ => hno (by omega)⟩, fun q7 => ⟨fun _ => sX7_add ?_, fun z => absurd (by decide) z⟩⟩⟩⟩⟩⟩⟩⟩⟩⟩)
  rw [hc.1]
  refine ⟨fun q8 => ⟨k0, q8, k0, q8, k0, q8, ?_⟩, fun q => hno (by omega)⟩
  rw [jw_id (x := m 139 52 + 1) (by omega) (by omega), jw_id (by omega) (by omega)]
  generalize hm1 : jup (jup (jup (jup (jup m 122 (m 139 52) a) 123 (m 139 52) b) 124 (m 139 52) c) 120 0 (m 139 52 + 1)) 120 7 0 = m1
  have e52 : m1 139 52 = m 139 52 := by subst hm1; rfl
  refine sX11_bid ⟨fun z => absurd z (by rw [e52]; omega), fun _ => sX11_isIn ⟨fun z => absurd z (by omega), fun _ => ⟨fun z => absurd z (by omega), fun _ => ⟨fun z => absurd z (by decide), fun _ => sX11_isIn ⟨fun z => absurd z (by omega), fun _ => ⟨fun z => absurd z (by omega), fun _ => ⟨fun z => absurd z (by decide), fun _ => sX11_isIn ⟨fun z => absurd z (by omega), fun _ => ⟨fun z => absurd z (by omega), fun _ => ⟨fun _ => ?_, fun z => absurd (by decide) z⟩⟩⟩⟩⟩⟩⟩⟩⟩⟩
  rw [e52, jw_id (x := m 139 52 + 1) (by omega) (by omega), jw_id (by omega) (by omega)]
  refine ⟨k0, q8, k0, q8, k0, q8, rfl, ?_, ?_⟩
  · generalize hm2 : jup (jup (jup (jup m1 180 (m 139 52) a) 181 (m 139 52) b) 182 (m 139 52) c) 139 52 (m 139 52 + 1) = m2
    have g1 : m2 139 52 = m 139 52 + 1 := by subst hm2; rfl
    have g2 : ∀ i, m2 180 i = if i = m 139 52 then a else m 180 i := by intro i; subst hm2; subst hm1; simp [jup]
    have g3 : ∀ i, m2 181 i = if i = m 139 52 then b else m 181 i := by intro i; subst hm2; subst hm1; simp [jup]
    have g4 : ∀ i, m2 182 i = if i = m 139 52 then c else m 182 i := by intro i; subst hm2; subst hm1; simp [jup]
    have g5 : m2 120 0 = m 139 52 + 1 := by subst hm2; subst hm1; simp [jup]
    have g6 : m2 120 7 = 0 := by subst hm2; subst hm1; simp [jup]
    have g7 : ∀ i, m2 122 i = if i = m 139 52 then a else m 122 i := by intro i; subst hm2; subst hm1; simp [jup]
    have g8 : ∀ i, m2 123 i = if i = m 139 52 then b else m 123 i := by intro i; subst hm2; subst hm1; simp [jup]
    have g9 : ∀ i, m2 124 i = if i = m 139 52 then c else m 124 i := by intro i; subst hm2; subst hm1; simp [jup]
    refine teInv_mk ⟨by omega, by omega, fun x x0 x1 => ?_⟩ ⟨by omega, fun x x0 x1 => ?_⟩ g6
    · rw [g2, g3, g4]
      by_cases e : x = m 139 52
      · rw [if_pos e, if_pos e, if_pos e]; omega
      · rw [if_neg e, if_neg e, if_neg e]; exact hk.2.2 x x0 (by omega)
    · rw [g7, g8, g9, g2, g3, g4]
      by_cases e : x = m 139 52
      · rw [if_pos e, if_pos e, if_pos e, if_pos e, if_pos e, if_pos e]; exact ⟨rfl, rfl, rfl⟩
      · rw [if_neg e, if_neg e, if_neg e, if_neg e, if_neg e, if_neg e]; exact hc.2 x x0 (by omega)
  · rw [← hm1]
    exact frx_upF (frx_upA (frx_upA (frx_upA (frx_upA (frx_upA (frx_upA (frx_upA (frx_upA frx_rf (by decide)) (by decide)) (by decide)) (by decide)) (by decide)) (by decide)) (by decide)) (by decide)) (by decide)

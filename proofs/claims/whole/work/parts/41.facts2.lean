/-! facts: the other calls -/
theorem r_shut {m : jM} {Q : Int → jM → Prop} {x a b : Int} (ht : 0 ≤ m 139 44 ∧ m 139 44 ≤ 100) (g : fcGo m (0 ≤ x ∧ x < 24 ∧ 0 ≤ a ∧ a ≤ b ∧ b < 365) 3 x a b 0 Q) : ML iX11_shut [(2, 139), (0, x), (0, a), (0, b)] m Q := by
  refine sX11_shut ?_
  repeat' (first
    | refine v_if (fun h => absurd h (by decide)) (fun _ => ?_)
    | refine v_if (fun _ => ?_) (fun h => absurd (by decide) h)
    | refine v_if (fun _ => ?_) (fun _ => ?_)
    | refine v_bd (by omega) (by omega) ?_
    | refine v_b0 ?_
    | refine v_b1 ?_
    | refine sX11_isIn ?_)
  all_goals first
    | exact g.1 (by omega)
    | exact c_fact ht (fun z => g.1 (by omega)) (fun m1 z hA => g.2 m1 (by omega) z hA)
theorem p_shut {m : jM} {x a b : Int} (hi : fcInv m) : ML iX10_shut [(2, 0), (0, x), (0, a), (0, b)] m (fun r m1 => ML iX11_shut [(2, 139), (0, x), (0, a), (0, b)] m1 (fun r' m2 => r = r' ∧ fcIn m m2 ∧ frx fcUp fcUf m m2)) := by
  have ht := hi.1.1
  have hc0 : m 13 0 = m 139 44 := hi.2.1
  have hno : ¬ (0 ≤ x ∧ x < 24 ∧ 0 ≤ a ∧ a ≤ b ∧ b < 365 ∧ m 139 44 < 100) → ML iX11_shut [(2, 139), (0, x), (0, a), (0, b)] m (fun r' m2 => -1 = r' ∧ fcIn m m2 ∧ frx fcUp fcUf m m2) := fun hn => r_shut ⟨ht.1, ht.2.1⟩ ⟨fun _ => ⟨rfl, fcIn_rf hi, frx_rf⟩, fun m1 z z2 => absurd (by omega) hn⟩
  refine sX10_shut ?_
  repeat' (first
    | refine v_if (fun h => absurd h (by decide)) (fun _ => ?_)
    | refine v_if (fun _ => ?_) (fun h => absurd (by decide) h)
    | refine v_if (fun _ => ?_) (fun _ => ?_)
    | refine v_bd (by omega) (by omega) ?_
    | refine v_b0 ?_
    | refine v_b1 ?_
    | refine sX10_isDay ?_
    | refine sX10_within ?_)
  all_goals first
    | exact hno (by omega)
    | (refine c_add (by omega) (fun z => hno (by omega)) (fun m1 z hA => ?_)
       rw [hc0]
       have hr := fcAC_r hi hA
       have hr1 := hr.1
       exact r_shut (by omega) ⟨fun z => absurd ⟨by omega, by omega⟩ z, fun m2 _ _ hR => ⟨hr1.symm, fcInv_add hi (by omega) hA hR (by decide) (by decide) (Or.inr (Or.inr (Or.inl (by omega)))), fc_fr hA hR⟩⟩)
theorem r_part {m : jM} {Q : Int → jM → Prop} {x y : Int} (ht : 0 ≤ m 139 44 ∧ m 139 44 ≤ 100) (g : fcGo m (0 ≤ x ∧ x < m 139 50 ∧ 0 ≤ y ∧ y < m 139 50 ∧ x ≠ y) 4 x y 0 0 Q) : ML iX11_part [(2, 139), (0, x), (0, y)] m Q := by
  refine sX11_part ?_
  repeat' (first
    | refine v_if (fun h => absurd h (by decide)) (fun _ => ?_)
    | refine v_if (fun _ => ?_) (fun h => absurd (by decide) h)
    | refine v_if (fun _ => ?_) (fun _ => ?_)
    | refine v_bd (by omega) (by omega) ?_
    | refine v_b0 ?_
    | refine v_b1 ?_
    | refine sX11_isChild ?_)
  all_goals first
    | exact g.1 (by omega)
    | exact c_fact ht (fun z => g.1 (by omega)) (fun m1 z hA => g.2 m1 (by omega) z hA)
theorem p_part {m : jM} {x y : Int} (hi : fcInv m) : ML iX10_part [(2, 0), (0, x), (0, y)] m (fun r m1 => ML iX11_part [(2, 139), (0, x), (0, y)] m1 (fun r' m2 => r = r' ∧ fcIn m m2 ∧ frx fcUp fcUf m m2)) := by
  have ht := hi.1.1
  have hc0 : m 13 0 = m 139 44 := hi.2.1
  have hc1 : m 13 1 = m 139 50 := hi.2.2.1
  have hno : ¬ (0 ≤ x ∧ x < m 139 50 ∧ 0 ≤ y ∧ y < m 139 50 ∧ x ≠ y ∧ m 139 44 < 100) → ML iX11_part [(2, 139), (0, x), (0, y)] m (fun r' m2 => -1 = r' ∧ fcIn m m2 ∧ frx fcUp fcUf m m2) := fun hn => r_part ⟨ht.1, ht.2.1⟩ ⟨fun _ => ⟨rfl, fcIn_rf hi, frx_rf⟩, fun m1 z z2 => absurd (by omega) hn⟩
  refine sX10_part ?_
  rw [hc1]
  repeat' (first
    | refine v_if (fun h => absurd h (by decide)) (fun _ => ?_)
    | refine v_if (fun _ => ?_) (fun h => absurd (by decide) h)
    | refine v_if (fun _ => ?_) (fun _ => ?_)
    | refine v_bd (by omega) (by omega) ?_
    | refine v_b0 ?_
    | refine v_b1 ?_
    | refine sX10_within ?_)
  all_goals first
    | exact hno (by omega)
    | (refine c_add (by omega) (fun z => hno (by omega)) (fun m1 z hA => ?_)
       rw [hc0]
       obtain ⟨hr1, hr2, -⟩ := fcAC_r hi hA
       have fx := (hi.1.2.2.1 x (by omega) (by omega)).2.1
       have fy := (hi.1.2.2.1 y (by omega) (by omega)).2.1
       exact r_part (by omega) ⟨fun z => absurd ⟨by omega, by omega⟩ z, fun m2 _ _ hR => ⟨hr1.symm, fcInv_add hi (by omega) hA hR (by decide) (by decide) (Or.inr (Or.inr (Or.inr (Or.inl (by omega))))), fc_fr hA hR⟩⟩)
theorem r_tap {m : jM} {Q : Int → jM → Prop} {x s d t : Int} (ht : 0 ≤ m 139 44 ∧ m 139 44 ≤ 100) (g : fcGo m (0 ≤ x ∧ x < m 139 50 ∧ 0 ≤ s ∧ s < 6 ∧ 0 ≤ d ∧ d < 365 ∧ 0 ≤ t ∧ t < 1440) 5 x s d t Q) : ML iX11_tap [(2, 139), (0, x), (0, s), (0, d), (0, t)] m Q := by
  refine sX11_tap ?_
  repeat' (first
    | refine v_if (fun h => absurd h (by decide)) (fun _ => ?_)
    | refine v_if (fun _ => ?_) (fun h => absurd (by decide) h)
    | refine v_if (fun _ => ?_) (fun _ => ?_)
    | refine v_bd (by omega) (by omega) ?_
    | refine v_b0 ?_
    | refine v_b1 ?_
    | refine sX11_isChild ?_
    | refine sX11_isIn ?_)
  all_goals first
    | exact g.1 (by omega)
    | exact c_fact ht (fun z => g.1 (by omega)) (fun m1 z hA => g.2 m1 (by omega) z hA)
theorem p_tap {m : jM} {x s d t : Int} (hi : fcInv m) : ML iX10_tap [(2, 0), (0, x), (0, s), (0, d), (0, t)] m (fun r m1 => ML iX11_tap [(2, 139), (0, x), (0, s), (0, d), (0, t)] m1 (fun r' m2 => r = r' ∧ fcIn m m2 ∧ frx fcUp fcUf m m2)) := by
  have ht := hi.1.1
  have hc0 : m 13 0 = m 139 44 := hi.2.1
  have hc1 : m 13 1 = m 139 50 := hi.2.2.1
  have hno : ¬ (0 ≤ x ∧ x < m 139 50 ∧ 0 ≤ s ∧ s < 6 ∧ 0 ≤ d ∧ d < 365 ∧ 0 ≤ t ∧ t < 1440 ∧ m 139 44 < 100) → ML iX11_tap [(2, 139), (0, x), (0, s), (0, d), (0, t)] m (fun r' m2 => -1 = r' ∧ fcIn m m2 ∧ frx fcUp fcUf m m2) := fun hn => r_tap ⟨ht.1, ht.2.1⟩ ⟨fun _ => ⟨rfl, fcIn_rf hi, frx_rf⟩, fun m1 z z2 => absurd (by omega) hn⟩
  refine sX10_tap ?_
  rw [hc1]
  repeat' (first
    | refine v_if (fun h => absurd h (by decide)) (fun _ => ?_)
    | refine v_if (fun _ => ?_) (fun h => absurd (by decide) h)
    | refine v_if (fun _ => ?_) (fun _ => ?_)
    | refine v_bd (by omega) (by omega) ?_
    | refine v_b0 ?_
    | refine v_b1 ?_
    | refine sX10_isDay ?_
    | refine sX10_within ?_)
  all_goals first
    | exact hno (by omega)
    | (refine c_add (by omega) (fun z => hno (by omega)) (fun m1 z hA => ?_)
       rw [hc0]
       obtain ⟨hr1, hr2, -⟩ := fcAC_r hi hA
       exact r_tap (by omega) ⟨fun z => absurd ⟨by omega, by omega⟩ z, fun m2 _ _ hR => ⟨hr1.symm, fcInv_add hi (by omega) hA hR (by decide) (by decide) (Or.inr (Or.inr (Or.inr (Or.inr (Or.inl (by omega)))))), fc_fr hA hR⟩⟩)
theorem r_annul {m : jM} {Q : Int → jM → Prop} {f : Int} (ht : 0 ≤ m 139 44 ∧ m 139 44 ≤ 100) (g : fcGo m (0 ≤ f ∧ f < m 139 44 ∧ m 174 f ≠ 0 ∧ m 174 f ≠ 6) 6 f 0 0 0 Q) : ML iX11_annul [(2, 139), (0, f)] m Q := by
  refine sX11_annul ?_
  rw [jw_id (x := m 139 44 - 1) (by omega) (by omega)]
  repeat' (first
    | refine v_if (fun h => absurd h (by decide)) (fun _ => ?_)
    | refine v_if (fun _ => ?_) (fun h => absurd (by decide) h)
    | refine v_if (fun _ => ?_) (fun _ => ?_)
    | refine v_bd (by omega) (by omega) ?_
    | refine v_b0 ?_
    | refine v_b1 ?_
    | refine sX11_isIn ?_)
  all_goals first
    | exact g.1 (by omega)
    | exact c_fact ht (fun z => g.1 (by omega)) (fun m1 z hA => g.2 m1 (by omega) z hA)
theorem p_annul {m : jM} {f : Int} (hi : fcInv m) : ML iX10_annul [(2, 0), (0, f)] m (fun r m1 => ML iX11_annul [(2, 139), (0, f)] m1 (fun r' m2 => r = r' ∧ fcIn m m2 ∧ frx fcUp fcUf m m2)) := by
  have ht := hi.1.1
  have hc0 : m 13 0 = m 139 44 := hi.2.1
  have hc1 : m 13 1 = m 139 50 := hi.2.2.1
  have hno : ¬ (0 ≤ f ∧ f < m 139 44 ∧ m 174 f ≠ 0 ∧ m 174 f ≠ 6 ∧ m 139 44 < 100) → ML iX11_annul [(2, 139), (0, f)] m (fun r' m2 => -1 = r' ∧ fcIn m m2 ∧ frx fcUp fcUf m m2) := fun hn => r_annul ⟨ht.1, ht.2.1⟩ ⟨fun _ => ⟨rfl, fcIn_rf hi, frx_rf⟩, fun m1 z z2 => absurd (by omega) hn⟩
  by_cases hf : 0 ≤ f ∧ f < m 139 44
  · have hk : m 19 f = m 174 f := (hi.2.2.2.1 f hf.1 hf.2).1
    refine sX10_annul ?_
    rw [hc0]
    refine sX10_within ⟨fun c => absurd c (by omega), fun _ => ⟨fun c => absurd c (by omega), fun _ => ⟨fun _ => sX1_addVoid ?_, fun c => absurd (by decide) c⟩⟩⟩
    rw [hk]
    refine ⟨hf.1, by omega, fun c => hno (by omega), fun c => ⟨hf.1, by omega, fun c2 => ?_, fun c2 => hno (by omega)⟩⟩
    refine c_add (by omega) (fun z => ⟨fun _ => hno (by omega), fun z => absurd rfl z⟩) (fun m1 hT hA => ?_)
    rw [hc0] at hT ⊢
    refine ⟨fun z => absurd z (by omega), fun _ => ⟨hf.1, by omega, hf.1, by omega, ?_⟩⟩
    obtain ⟨hr1, hr2, hr3⟩ := fcAC_r hi hA
    obtain ⟨a0, a1, a2, a3, a4, a5, a6, af⟩ := hA
    rw [hc0] at a0 a1 a2 a3 a4 a5 a6
    generalize hm2 : jup m1 20 f (min (m1 20 f) (m 139 44)) = m2
    have v20 : ∀ i, m2 20 i = if i = f then min (m1 20 f) (m 139 44) else m1 20 i := by intro i; rw [← hm2, jup_self]
    have o : ∀ p, p ≠ 20 → m2 p = m1 p := fun p hp => by rw [← hm2]; exact jup_ne hp
    have q1 : m2 139 44 = m 139 44 := by rw [o 139 (by decide)]; exact hr1
    have hkk : m2 174 f ≠ 0 ∧ m2 174 f ≠ 6 := by rw [o 174 (by decide), hr3]; exact ⟨c, c2⟩
    refine r_annul (by omega) ⟨fun z => absurd ⟨⟨hf.1, by omega, hkk.1, hkk.2⟩, by omega⟩ z, fun m3 _ _ hR => ?_⟩
    · obtain ⟨b0, b1, b2, b3, b4, b5, bf⟩ := hR
      rw [q1] at b0 b1 b2 b3 b4 b5
      have w : ∀ p, p ∉ [174, 175, 176, 177, 178] → p ≠ 139 → m3 p = m2 p := fun p h1 h2 => frx_row bf p h1 (by intro q hq; simp only [List.mem_cons, List.not_mem_nil, or_false] at hq; rw [hq]; exact fun z => h2 z.symm)
      have ar : ∀ p, p ∉ [19, 14, 15, 16, 17, 20] → p ≠ 13 → m1 p = m p := fun p h1 h2 => frx_row af p h1 (by intro q hq; simp only [List.mem_cons, List.not_mem_nil, or_false] at hq; rw [hq]; exact fun z => h2 z.symm)
      have x174 : m2 174 = m 174 := (o _ (by decide)).trans (ar _ (by decide) (by decide))
      have x175 : m2 175 = m 175 := (o _ (by decide)).trans (ar _ (by decide) (by decide))
      have x176 : m2 176 = m 176 := (o _ (by decide)).trans (ar _ (by decide) (by decide))
      have x177 : m2 177 = m 177 := (o _ (by decide)).trans (ar _ (by decide) (by decide))
      have x178 : m2 178 = m 178 := (o _ (by decide)).trans (ar _ (by decide) (by decide))
      rw [x174] at b1
      rw [x175] at b2
      rw [x176] at b3
      rw [x177] at b4
      rw [x178] at b5
      have y50 : m3 139 50 = m 139 50 := (bf _ _ (by decide) (by decide)).trans (by rw [o 139 (by decide)]; exact hr2)
      have y13 : m3 13 = m1 13 := (w 13 (by decide) (by decide)).trans (o _ (by decide))
      have y179 : m3 179 = m 179 := ((w _ (by decide) (by decide)).trans (o _ (by decide))).trans (ar _ (by decide) (by decide))
      have y18 : m3 18 = m 18 := ((w _ (by decide) (by decide)).trans (o _ (by decide))).trans (ar _ (by decide) (by decide))
      have hfx : frx fcUp fcUf m m3 := frx_tr (frx_tr (frx_mono af (by decide) (by decide)) (by rw [← hm2]; exact frx_upA frx_rf (by decide))) (frx_mono bf (by decide) (by decide))
      refine ⟨q1.symm, fcInv_put (k := 6) (a := f) (b := 0) (c := 0) (e := 0) hi hT (by rw [y13]; exact a0) ?_ ?_ ?_ ?_ ?_ (fun i => ?_) b0 b1 b2 b3 b4 b5 (by rw [y13, y50, af 13 1 (by decide) (by decide)]; exact hc1) (Or.inl ⟨by decide, y50, fun x => by rw [y179], fun x => by rw [y18]⟩) (Or.inr (Or.inr (Or.inr (Or.inr (Or.inr (by omega)))))), hfx⟩
      · rw [w 19 (by decide) (by decide), o 19 (by decide)]; exact a1
      · rw [w 14 (by decide) (by decide), o 14 (by decide)]; exact a2
      · rw [w 15 (by decide) (by decide), o 15 (by decide)]; exact a3
      · rw [w 16 (by decide) (by decide), o 16 (by decide)]; exact a4
      · rw [w 17 (by decide) (by decide), o 17 (by decide)]; exact a5
      · rw [w 20 (by decide) (by decide), v20, a6, a6, if_neg (show ¬ f = m 139 44 by omega)]
        by_cases e : i = f
        · rw [if_pos e, if_neg (by omega), if_pos ⟨rfl, e⟩, e]
        · rw [if_neg e]
          by_cases e2 : i = m 139 44
          · rw [if_pos e2, if_pos e2]
          · rw [if_neg e2, if_neg e2, if_neg (fun z => e z.2)]
  · refine sX10_annul ?_
    rw [hc0]
    exact sX10_within ⟨fun c => ⟨fun z => absurd rfl z, fun _ => hno (by omega)⟩, fun _ => ⟨fun c => ⟨fun z => absurd rfl z, fun _ => hno (by omega)⟩, fun _ => absurd (by omega) hf⟩⟩
theorem p_child {m : jM} {a b c e : Int} (hi : fcInv m) : ML iX10_child [(2, 0), (0, a), (0, b), (0, c), (0, e)] m (fun r m1 => ML iX11_child [(2, 139), (0, a), (0, b), (0, c), (0, e)] m1 (fun r' m2 => r = r' ∧ fcIn m m2 ∧ frx fcUp fcUf m m2)) := by
  have ht := hi.1.1
  have hc0 : m 13 0 = m 139 44 := hi.2.1
  have hc1 : m 13 1 = m 139 50 := hi.2.2.1
  have hno : ¬ (0 ≤ a ∧ a < 12 ∧ 0 ≤ b ∧ b < 3 ∧ 0 ≤ c ∧ c < 13 ∧ 0 ≤ e ∧ e < 4 ∧ m 139 44 < 100 ∧ m 139 50 < 20) → ML iX11_child [(2, 139), (0, a), (0, b), (0, c), (0, e)] m (fun r' m2 => -1 = r' ∧ fcIn m m2 ∧ frx fcUp fcUf m m2) := by
    intro hn
    refine sX11_child ?_
    repeat' (first
      | refine v_if (fun h => absurd h (by decide)) (fun _ => ?_)
      | refine v_if (fun _ => ?_) (fun h => absurd (by decide) h)
      | refine v_if (fun _ => ?_) (fun _ => ?_)
      | refine v_bd (by omega) (by omega) ?_
      | refine v_b0 ?_
      | refine v_b1 ?_
      | refine sX11_isIn ?_)
    all_goals first
      | exact ⟨rfl, fcIn_rf hi, frx_rf⟩
      | (exfalso; omega)
  by_cases hok : 0 ≤ a ∧ a < 12 ∧ 0 ≤ b ∧ b < 3 ∧ 0 ≤ c ∧ c < 13 ∧ 0 ≤ e ∧ e < 4
  · refine sX10_child ?_
    repeat' (first
      | refine v_if (fun h => absurd h (by decide)) (fun _ => ?_)
      | refine v_if (fun _ => ?_) (fun h => absurd (by decide) h)
      | refine v_if (fun _ => ?_) (fun _ => ?_)
      | refine v_bd (by omega) (by omega) ?_
      | refine v_b0 ?_
      | refine v_b1 ?_
      | refine sX10_within ?_)
    all_goals try (exfalso; omega)
    refine sX1_addChild ?_
    rw [hc1]
    refine ⟨fun hN => c_add (by omega) (fun z => ⟨fun z => absurd rfl z, fun _ => hno (by omega)⟩) (fun m1 hT hA => ?_), fun z => hno (by omega)⟩
    rw [hc0] at hT ⊢
    have e1 : m1 13 1 = m 139 50 := (hA.2.2.2.2.2.2.2 _ _ (by decide) (by decide)).trans hc1
    rw [e1, jw_id (x := m 139 50 + 1) (by omega) (by omega), jw_id (by omega) (by omega)]
    refine ⟨fun _ => ⟨ht.2.2.1, hN, ?_⟩, fun z => absurd (by omega) z⟩
    obtain ⟨hr1, hr2, hr3⟩ := fcAC_r hi hA
    obtain ⟨a0, a1, a2, a3, a4, a5, a6, af⟩ := hA
    rw [hc0] at a0 a1 a2 a3 a4 a5 a6
    generalize hm2 : jup (jup m1 18 (m 139 50) (m 139 44)) 13 1 (m 139 50 + 1) = m2
    have o : ∀ p, p ≠ 18 → p ≠ 13 → m2 p = m1 p := fun p hp hp2 => by rw [← hm2, jup_ne hp2, jup_ne hp]
    have q1 : m2 139 44 = m 139 44 := by rw [o 139 (by decide) (by decide)]; exact hr1
    have q2 : m2 139 50 = m 139 50 := by rw [o 139 (by decide) (by decide)]; exact hr2
    have q3 : m2 13 0 = m 139 44 + 1 := by rw [← hm2]; exact a0
    have q4 : m2 13 1 = m 139 50 + 1 := by rw [← hm2]; exact jup_s
    have q5 : ∀ x, m2 18 x = if x = m 139 50 then m 139 44 else m 18 x := by
      intro x
      rw [← hm2, jup_ne (by decide), jup_self, frx_row af 18 (by decide) (by decide)]
    refine sX11_child ?_
    rw [q1, q2]
    repeat' (first
      | refine v_if (fun h => absurd h (by decide)) (fun _ => ?_)
      | refine v_if (fun _ => ?_) (fun h => absurd (by decide) h)
      | refine v_if (fun _ => ?_) (fun _ => ?_)
      | refine v_bd (by omega) (by omega) ?_
      | refine v_b0 ?_
      | refine v_b1 ?_
      | refine sX11_isIn ?_)
    all_goals try (exfalso; omega)
    refine c_fact (by omega) (fun z => absurd z (by omega)) (fun m3 _ hR => ?_)
    obtain ⟨b0, b1, b2, b3, b4, b5, bf⟩ := hR
    rw [q1] at b0 b1 b2 b3 b4 b5
    have w : ∀ p, p ∉ [174, 175, 176, 177, 178] → p ≠ 139 → m3 p = m2 p := fun p h1 h2 => frx_row bf p h1 (by intro q hq; simp only [List.mem_cons, List.not_mem_nil, or_false] at hq; rw [hq]; exact fun z => h2 z.symm)
    have ar : ∀ p, p ∉ [19, 14, 15, 16, 17, 20] → p ≠ 13 → m1 p = m p := fun p h1 h2 => frx_row af p h1 (by intro q hq; simp only [List.mem_cons, List.not_mem_nil, or_false] at hq; rw [hq]; exact fun z => h2 z.symm)
    have x174 : m2 174 = m 174 := (o _ (by decide) (by decide)).trans (ar _ (by decide) (by decide))
    have x175 : m2 175 = m 175 := (o _ (by decide) (by decide)).trans (ar _ (by decide) (by decide))
    have x176 : m2 176 = m 176 := (o _ (by decide) (by decide)).trans (ar _ (by decide) (by decide))
    have x177 : m2 177 = m 177 := (o _ (by decide) (by decide)).trans (ar _ (by decide) (by decide))
    have x178 : m2 178 = m 178 := (o _ (by decide) (by decide)).trans (ar _ (by decide) (by decide))
    rw [x174] at b1
    rw [x175] at b2
    rw [x176] at b3
    rw [x177] at b4
    rw [x178] at b5
    have y50 : m3 139 50 = m 139 50 := (bf _ _ (by decide) (by decide)).trans q2
    have y179 : m3 179 = m 179 := ((w _ (by decide) (by decide)).trans (o _ (by decide) (by decide))).trans (ar _ (by decide) (by decide))
    rw [q1, q2, y50, jw_id (x := m 139 50 + 1) (by omega) (by omega), jw_id (by omega) (by omega)]
    refine ⟨ht.2.2.1, hN, rfl, ?_, ?_⟩
    · generalize hm4 : jup (jup m3 179 (m 139 50) (m 139 44)) 139 50 (m 139 50 + 1) = m4
      have w4 : ∀ p, p ≠ 179 → p ≠ 139 → m4 p = m3 p := fun p hp hp2 => by rw [← hm4, jup_ne hp2, jup_ne hp]
      refine fcInv_put (k := 0) (a := a) (b := b) (c := c) (e := e) hi hT ?_ ?_ ?_ ?_ ?_ ?_ (fun i => ?_) ?_ ?_ ?_ ?_ ?_ ?_ ?_ (Or.inr ⟨rfl, hN, ?_, fun x => ?_, fun x => ?_⟩) (Or.inl (by omega))
      · rw [w4 13 (by decide) (by decide), w 13 (by decide) (by decide)]; exact q3
      · rw [w4 19 (by decide) (by decide), w 19 (by decide) (by decide), o 19 (by decide) (by decide)]; exact a1
      · rw [w4 14 (by decide) (by decide), w 14 (by decide) (by decide), o 14 (by decide) (by decide)]; exact a2
      · rw [w4 15 (by decide) (by decide), w 15 (by decide) (by decide), o 15 (by decide) (by decide)]; exact a3
      · rw [w4 16 (by decide) (by decide), w 16 (by decide) (by decide), o 16 (by decide) (by decide)]; exact a4
      · rw [w4 17 (by decide) (by decide), w 17 (by decide) (by decide), o 17 (by decide) (by decide)]; exact a5
      · rw [w4 20 (by decide) (by decide), w 20 (by decide) (by decide), o 20 (by decide) (by decide), a6, if_neg (show ¬ ((0 : Int) = 6 ∧ i = a) from fun z => absurd z.1 (by decide))]
      · rw [← hm4]; exact b0
      · rw [w4 174 (by decide) (by decide)]; exact b1
      · rw [w4 175 (by decide) (by decide)]; exact b2
      · rw [w4 176 (by decide) (by decide)]; exact b3
      · rw [w4 177 (by decide) (by decide)]; exact b4
      · rw [w4 178 (by decide) (by decide)]; exact b5
      · rw [w4 13 (by decide) (by decide), w 13 (by decide) (by decide), q4, ← hm4, jup_s]
      · rw [← hm4, jup_s]
      · rw [← hm4, jup_ne (by decide), jup_self, y179]
      · rw [w4 18 (by decide) (by decide), w 18 (by decide) (by decide)]; exact q5 x
    · exact frx_upF (frx_upA (frx_tr (frx_tr (frx_mono af (by decide) (by decide)) (by rw [← hm2]; exact frx_upF (frx_upA frx_rf (by decide)) (by decide))) (frx_mono bf (by decide) (by decide))) (by decide)) (by decide)
  · refine sX10_child ?_
    repeat' (first
      | refine v_if (fun h => absurd h (by decide)) (fun _ => ?_)
      | refine v_if (fun _ => ?_) (fun h => absurd (by decide) h)
      | refine v_if (fun _ => ?_) (fun _ => ?_)
      | refine v_bd (by omega) (by omega) ?_
      | refine v_b0 ?_
      | refine v_b1 ?_
      | refine sX10_within ?_)
    all_goals first
      | exact hno (by omega)
      | (exfalso; omega)

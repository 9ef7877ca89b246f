/-! the tape -/
def tpInv (m : jM) : Prop := m 2 1 = m 139 0 ∧ 0 ≤ m 139 0 ∧ m 139 0 ≤ 2000 ∧ ∀ i, 0 ≤ i → i < m 139 0 → m 3 i = m 140 i ∧ 0 ≤ m 140 i ∧ m 140 i ≤ 255
abbrev tpDp : List Int := [3, 140]
abbrev tpDf : List (Int × Int) := [(2, 1), (139, 0)]
theorem tpInv_cg {m m' : jM} (h : agr tpDp tpDf m m') (hx : tpInv m) : tpInv m' := by
  unfold tpInv at *
  rw [agr_row h 3 (by decide), agr_row h 140 (by decide), agr_at h 2 1 (by decide), agr_at h 139 0 (by decide)]
  exact hx
/-- four bytes behind the first n -/
def tpAp (f : Int → Int) (n x : Int) : Int → Int := fun i => if n ≤ i ∧ i < n + 4 then jand (jshr x (24 - 8 * (i - n))) 255 else f i
theorem c_append {m : jM} {Q : Int → jM → Prop} {x : Int} (h0 : 0 ≤ m 2 1) (h1 : m 2 1 + 4 ≤ 2000) (hQ : ∀ m1, m1 2 1 = m 2 1 + 4 → m1 3 = tpAp (m 3) (m 2 1) x → frx [3] [(2, 1)] m m1 → Q 0 m1) : ML iX6_append [(2, 2), (0, x)] m Q := by
  refine sX6_append ?_
  have key := lup (n := 4) (I := fun k m1 => 0 ≤ k ∧ k ≤ 4 ∧ m1 2 1 = m 2 1 + k ∧ (∀ i, m1 3 i = if m 2 1 ≤ i ∧ i < m 2 1 + k then jand (jshr x (24 - 8 * (i - m 2 1))) 255 else m 3 i) ∧ frx [3] [(2, 1)] m m1) (G := fun k m1 => GL iX6_append m1 3 [(2, 2), (0, x), (0, 24 - 8 * k)] [] Q) ?_ ?_ 0 m ⟨by decide, by decide, by omega, fun i => by rw [if_neg (by omega)], frx_rf⟩
  · exact key
  · rintro k m1 hk ⟨k0, k1, hl, hb, hf⟩ K
    refine sX6_append_3 ⟨fun c => absurd c (by omega), fun _ => ⟨fun c => absurd c (by omega), fun _ => ⟨by omega, by omega, ?_⟩⟩⟩
    rw [hl, jw_id (x := m 2 1 + k + 1) (by omega) (by omega), jw_id (x := 24 - 8 * k + -8) (by omega) (by omega), show 24 - 8 * k + -8 = 24 - 8 * (k + 1) by omega]
    refine K _ ⟨by omega, by omega, by rw [jup_s]; omega, fun i => ?_, frx_upF (frx_upA hf (by decide)) (by decide)⟩
    rw [jup_ne (by decide), jup_self, hb]
    by_cases e : i = m 2 1 + k
    · rw [if_pos e, if_pos (by omega), e]
      congr 2
      omega
    · rw [if_neg e]
      by_cases e2 : m 2 1 ≤ i ∧ i < m 2 1 + k
      · rw [if_pos e2, if_pos (by omega)]
      · rw [if_neg e2, if_neg (by omega)]
  · rintro k m1 hk ⟨k0, k1, hl, hb, hf⟩
    obtain rfl : k = 4 := by omega
    exact sX6_append_3 ⟨fun _ => hQ m1 hl (funext hb) hf, fun c => absurd (by decide) c⟩
theorem c_typed {m : jM} {Q : Int → jM → Prop} {x : Int} (h0 : 0 ≤ m 139 0) (h1 : m 139 0 + 4 ≤ 2000) (hQ : ∀ m1, m1 139 0 = m 139 0 + 4 → m1 140 = tpAp (m 140) (m 139 0) x → frx [140] [(139, 0)] m m1 → Q 0 m1) : ML iX11_typed [(2, 139), (0, x)] m Q := by
  refine sX11_typed ?_
  refine lup (n := 4) (I := fun k m1 => 0 ≤ k ∧ k ≤ 4 ∧ m1 139 0 = m 139 0 + k ∧ (∀ i, m1 140 i = if m 139 0 ≤ i ∧ i < m 139 0 + k then jand (jshr x (24 - 8 * (i - m 139 0))) 255 else m 140 i) ∧ frx [140] [(139, 0)] m m1) (G := fun k m1 => GL iX11_typed m1 2 [(2, 139), (0, x), (0, k)] [] Q) ?_ ?_ 0 m ⟨by decide, by decide, by omega, fun i => by rw [if_neg (by omega)], frx_rf⟩
  · rintro k m1 hk ⟨k0, k1, hl, hb, hf⟩ K
    refine sX11_typed_2 ⟨fun c => absurd c (by omega), fun _ => ⟨by omega, by omega, ?_⟩⟩
    rw [hl, jw_id (x := m 139 0 + k + 1) (by omega) (by omega), jw_id (x := 8 * k) (by omega) (by omega), jw_id (x := 24 - 8 * k) (by omega) (by omega), jw_id (x := k + 1) (by omega) (by omega)]
    refine K _ ⟨by omega, by omega, by rw [jup_s]; omega, fun i => ?_, frx_upF (frx_upA hf (by decide)) (by decide)⟩
    rw [jup_ne (by decide), jup_self, hb]
    by_cases e : i = m 139 0 + k
    · rw [if_pos e, if_pos (by omega), e]
      congr 2
      omega
    · rw [if_neg e]
      by_cases e2 : m 139 0 ≤ i ∧ i < m 139 0 + k
      · rw [if_pos e2, if_pos (by omega)]
      · rw [if_neg e2, if_neg (by omega)]
  · rintro k m1 hk ⟨k0, k1, hl, hb, hf⟩
    obtain rfl : k = 4 := by omega
    exact sX11_typed_2 ⟨fun _ => hQ m1 hl (funext hb) hf, fun c => absurd (by decide) c⟩
def tpE (f g : Int → Int) (n : Int) : Prop := ∀ i, 0 ≤ i → i < n → f i = g i ∧ 0 ≤ g i ∧ g i ≤ 255
theorem tpE_ap {f g : Int → Int} {n x : Int} (h : tpE f g n) (n0 : 0 ≤ n) : tpE (tpAp f n x) (tpAp g n x) (n + 4) := by
  intro i i0 i1
  unfold tpAp
  by_cases e : n ≤ i ∧ i < n + 4
  · rw [if_pos e, if_pos e]
    refine ⟨rfl, jand_nn2 (by omega) (jshr_in _ _), ?_⟩
    have := jand_lt2 (k := 8) (a := jshr x (24 - 8 * (i - n))) (b := 255) (by omega) (jshr_in _ _) (by decide) (by decide)
    omega
  · rw [if_neg e, if_neg e]
    exact h i i0 (by omega)
abbrev tpUp : List Int := [3, 140]
theorem r_feed {m : jM} {Q : Int → jM → Prop} {a b c d e : Int} (h0 : 0 ≤ m 139 0) (h2 : m 139 0 ≤ 2000) (hno : ¬ m 139 0 + 20 ≤ 2000 → Q (-1) m) (hQ : ∀ m1, m 139 0 + 20 ≤ 2000 → m1 139 0 = m 139 0 + 20 → m1 140 = tpAp (tpAp (tpAp (tpAp (tpAp (m 140) (m 139 0) a) (m 139 0 + 4) b) (m 139 0 + 8) c) (m 139 0 + 12) d) (m 139 0 + 16) e → frx [140] [(139, 0)] m m1 → Q (m 139 0 + 20) m1) : ML iX11_feed [(2, 139), (0, a), (0, b), (0, c), (0, d), (0, e)] m Q := by
  refine sX11_feed ?_
  rw [jw_id (by omega) (by omega)]
  refine ⟨fun hc => ?_, hno⟩
  refine c_typed h0 (by omega) (fun m1 l1 b1 f1 => c_typed (by omega) (by omega) (fun m2 l2 b2 f2 => c_typed (by omega) (by omega) (fun m3 l3 b3 f3 => c_typed (by omega) (by omega) (fun m4 l4 b4 f4 => c_typed (by omega) (by omega) (fun m5 l5 b5 f5 => ?_)))))
  rw [show m5 139 0 = m 139 0 + 20 by omega]
  refine hQ m5 hc (by omega) ?_ (frx_tr f1 (frx_tr f2 (frx_tr f3 (frx_tr f4 f5))))
  rw [b5, b4, b3, b2, b1, l4, l3, l2, l1, show m 139 0 + 4 + 4 = m 139 0 + 8 by omega, show m 139 0 + 8 + 4 = m 139 0 + 12 by omega, show m 139 0 + 12 + 4 = m 139 0 + 16 by omega]
theorem p_feed {m : jM} {a b c d e : Int} (h : tpInv m) : ML iX10_feed [(2, 0), (0, a), (0, b), (0, c), (0, d), (0, e)] m (fun r m1 => ML iX11_feed [(2, 139), (0, a), (0, b), (0, c), (0, d), (0, e)] m1 (fun r' m2 => r = r' ∧ tpInv m2 ∧ frx tpUp [(2, 1), (139, 0)] m m2)) := by
  obtain ⟨q0, q1, q2, q3⟩ := id h
  refine sX10_feed ?_
  rw [q0, jw_id (by omega) (by omega)]
  refine ⟨fun hc => ?_, fun hc => r_feed q1 q2 (fun _ => ⟨rfl, h, frx_rf⟩) (fun m1 z => absurd z hc)⟩
  refine c_append (by omega) (by omega) (fun m1 l1 b1 f1 => c_append (by omega) (by omega) (fun m2 l2 b2 f2 => c_append (by omega) (by omega) (fun m3 l3 b3 f3 => c_append (by omega) (by omega) (fun m4 l4 b4 f4 => c_append (by omega) (by omega) (fun m5 l5 b5 f5 => ?_)))))
  have ff := frx_tr f1 (frx_tr f2 (frx_tr f3 (frx_tr f4 f5)))
  have e0 : m5 139 0 = m 139 0 := ff _ _ (by decide) (by decide)
  have e1 : m5 140 = m 140 := frx_row ff _ (by decide) (by decide)
  refine r_feed (by omega) (by omega) (fun z => absurd (by omega) z) (fun m6 _ l6 b6 f6 => ⟨by omega, ⟨?_, by omega, by omega, ?_⟩, frx_tr (frx_mono ff (by decide) (by decide)) (frx_mono f6 (by decide) (by decide))⟩)
  · rw [f6 2 1 (by decide) (by decide)]
    omega
  · have h5 := tpE_ap (x := e) (tpE_ap (x := d) (tpE_ap (x := c) (tpE_ap (x := b) (tpE_ap (x := a) (show tpE (m 3) (m 140) (m 139 0) from q3) q1) (by omega)) (by omega)) (by omega)) (by omega)
    rw [frx_row f6 3 (by decide) (by decide), b5, b4, b3, b2, b1, l4, l3, l2, l1, q0, b6, e0, e1, l6, e0]
    intro i i0 i1
    have := h5 i i0 (by omega)
    rw [show m 139 0 + 4 + 4 = m 139 0 + 8 by omega, show m 139 0 + 8 + 4 = m 139 0 + 12 by omega, show m 139 0 + 12 + 4 = m 139 0 + 16 by omega] at this ⊢
    exact this
theorem p_back {m : jM} {a : Int} (h : tpInv m) : ML iX10_back [(2, 0), (0, a)] m (fun r m1 => ML iX11_back [(2, 139), (0, a)] m1 (fun r' m2 => r = r' ∧ tpInv m2 ∧ frx tpUp [(2, 1), (139, 0)] m m2)) := by
  obtain ⟨q0, q1, q2, q3⟩ := id h
  refine sX10_back ?_
  rw [q0]
  refine ⟨fun c => sX11_back ⟨fun _ => ⟨rfl, h, frx_rf⟩, fun z => absurd c z⟩, fun c => ⟨fun c2 => ?_, fun c2 => sX11_back ⟨fun z => absurd z c, fun _ => ⟨fun z => absurd z c2, fun _ => ⟨rfl, h, frx_rf⟩⟩⟩⟩⟩
  rw [jw_id (by omega) (by omega)]
  refine sX11_back ⟨fun z => absurd z c, fun _ => ⟨fun z => ?_, fun z => absurd c2 z⟩⟩
  have e : jup m 2 1 (m 139 0 - a) 139 0 = m 139 0 := rfl
  show m 139 0 - a = jw (jup m 2 1 (m 139 0 - a) 139 0 - a) ∧ tpInv (jup (jup m 2 1 (m 139 0 - a)) 139 0 (jw (jup m 2 1 (m 139 0 - a) 139 0 - a))) ∧ frx tpUp [(2, 1), (139, 0)] m (jup (jup m 2 1 (m 139 0 - a)) 139 0 (jw (jup m 2 1 (m 139 0 - a) 139 0 - a)))
  rw [e, jw_id (by omega) (by omega)]
  refine ⟨rfl, ⟨rfl, ?_, ?_, fun i i0 i1 => ?_⟩, frx_upF (frx_upF frx_rf (by decide)) (by decide)⟩
  · show 0 ≤ m 139 0 - a
    omega
  · show m 139 0 - a ≤ 2000
    omega
  · have i1 : i < m 139 0 - a := i1
    exact q3 i i0 (by omega)

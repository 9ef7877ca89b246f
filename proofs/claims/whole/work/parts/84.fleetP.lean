/-! fleet, shifted, shift -/
theorem r_collects {m m1 : jM} {Q : Int → jM → Prop} {day n : Int} (h : qI m) (hl : lkK m day n) (ha : agr kpD kpF m m1) (hno : ∀ m', ¬ hasAll (vv m day n) → rfx m1 m' → Q 0 m') (hQ : ∀ m', hasAll (vv m day n) → rfx m1 m' → rG (vv m day n) (frc m day) m' → aRr (flL (vv m day n) (vv m day n 0 2).toNat) m' → Q 1 m') : ML iX11_collects [(2, 139), (0, day), (0, n)] m1 Q := by
  obtain ⟨q, vk, vt, vd⟩ := lk_K h hl
  refine sX11_collects (r_lay h hl ha (fun m2 f2 x2 G2 => ?_))
  exact c_collectsG vk vt vd G2 (fun m' f' z => hno m' z (rfx_tr x2 (rfx_of f' (by decide)))) (fun m' f' z g a => hQ m' z (rfx_tr x2 (rfx_of f' (by decide))) g a)
theorem r_fleet {m m1 : jM} {Q : Int → jM → Prop} {day n : Int} (h : qI m) (hl : lkK m day n) (ha : agr kpD kpF m m1) (hno : ∀ m', ¬ hasAll (vv m day n) → rfx m1 m' → Q (-2) m') (hQ : ∀ m', hasAll (vv m day n) → rfx m1 m' → Q (nb (vv m day n) (fun _ => 0)) m') : ML iX11_fleet [(2, 139), (0, day), (0, n)] m1 Q := by
  obtain ⟨q, vk, vt, vd⟩ := lk_K h hl
  refine sX11_fleet (r_isDay h ha (fun z => absurd hl z) (fun _ => ⟨fun _ => ?_, fun w => absurd (by decide) w⟩))
  refine r_collects h hl ha (fun m' z x => ⟨fun w => absurd rfl w, fun _ => hno m' z x⟩) (fun m2 z x2 G2 A2 => ⟨fun _ => ?_, fun w => absurd (by decide) w⟩)
  refine lup (n := 3) (I := fun s m3 => 0 ≤ s ∧ s ≤ 3 ∧ frx s6 [] m2 m3 ∧ ∀ x, 0 ≤ x → x < s → m3 209 x = 0) (G := fun s m3 => GL iX11_fleet m3 25 [(2, 139), (9, 0), (9, 0), (0, s)] [] Q) ?_ ?_ 0 m2 ⟨by decide, by decide, frx_rf, fun x x0 x1 => by omega⟩
  · rintro s m3 hs ⟨s0, -, f3, h3⟩ K
    refine sX11_fleet_25 ?_
    rw [jw_id (x := s + 1) (by omega) (by omega)]
    refine ⟨fun w => absurd w (by omega), fun _ => ⟨s0, hs, K _ ⟨by omega, by omega, s6_put (i := s) (x := 0) f3 (Or.inl rfl) (fun q hq => jup_ne hq), fun x x0 x1 => ?_⟩⟩⟩
    rw [jup_self]
    by_cases e : x = s
    · rw [if_pos e]
    · rw [if_neg e]; exact h3 x x0 (by omega)
  · rintro s m3 hs ⟨s0, s1, f3, h3⟩
    obtain rfl : s = 3 := by omega
    have kk := s6_keep f3 G2 A2
    refine sX11_fleet_25 ⟨fun _ => ?_, fun w => absurd hs w⟩
    refine c_busesOf (P := fun _ => 0) vk vt kk.2.1 kk.2.2 (fun s a b => ⟨h3 s a b, by decide, by decide⟩) (fun m4 f4 => hQ m4 z (rfx_tr x2 (rfx_of (s6_bus f3 f4) (by decide))))
theorem r_shiftedFleet {m m1 : jM} {Q : Int → jM → Prop} {day n : Int} (h : qI m) (hl : lkK m day n) (ha : agr kpD kpF m m1) (hno : ∀ m', ¬ hasAll (vv m day n) → rfx m1 m' → Q (-2) m') (hQ : ∀ m', hasAll (vv m day n) → rfx m1 m' → (∀ s, 0 ≤ s → s < 3 → m' 214 s = 10 * pD (shN (vv m day n) 125).2.2 s) → Q (shN (vv m day n) 125).1 m') : ML iX11_shiftedFleet [(2, 139), (0, day), (0, n)] m1 Q := by
  obtain ⟨q, vk, vt, vd⟩ := lk_K h hl
  refine sX11_shiftedFleet (r_collects h hl ha (fun m' z x => ⟨fun w => absurd rfl w, fun _ => hno m' z x⟩) (fun m2 z x2 G2 A2 => ⟨fun _ => ?_, fun w => absurd (by decide) w⟩))
  exact c_shiftedG vk vt G2 A2 (fun m' f' hp => hQ m' z (rfx_tr x2 (rfx_of f' (by decide))) hp)
/-- memory changed in the fleet alone -/
theorem fl_lo {m m' : jM} (h : ∀ q, (q < 106 ∨ 119 < q) → m' q = m q) : ∀ q, (q < 106 ∨ 119 < q) → q ≠ 24 → q ≠ 25 → m' q = m q := fun q hq _ _ => h q hq
theorem p_fleet {m : jM} {day n : Int} (h : qI m) (hI : plI m) (hF : flI m) : ML iX10_fleet [(2, 0), (0, day), (0, n)] m (fun r m1 => ML iX11_fleet [(2, 139), (0, day), (0, n)] m1 (fun r' m2 => r = r' ∧ qOutF 1 m m2)) := by
  refine sX10_fleet (c_lookQ h (fun hn => ⟨fun w => absurd rfl w, fun _ => ?_⟩) (fun m1 hl g1 => ⟨fun _ => ?_, fun w => absurd (by decide) w⟩))
  · exact sX11_fleet (r_isDay h agr_rf (fun _ => ⟨fun w => absurd rfl w, fun _ => ⟨rfl, qOutP_F hF (qOut_P hI (qOut_rf h))⟩⟩) (fun y => absurd y hn))
  · obtain ⟨q, vk, vt, vd⟩ := lk_K h hl
    refine c_gatherFleet h hl hF (vG_P hI g1) (fun m2 z g2 => ⟨fun _ => ?_, fun w => absurd rfl w⟩) (fun m2 z g2 d2 s2 e2 => ⟨fun w => absurd w (by decide), fun _ => sX2_busesUnshifted (c_fill (n := 3) at_113 (by decide) (fun m i x h => ny_113 h) ?_)⟩)
    · exact r_fleet h hl g2.2.2.1 (fun m' _ x => ⟨rfl, q_finF h hl g2 x⟩) (fun m' y _ => absurd y z)
    · have r3 : ∀ q, q ≠ 113 → jfill m2 113 ((3 : Nat) : Int) 0 q = m2 q := fun q hq => jfill_ne hq
      have v3 : ∀ s : Int, 0 ≤ s → s < 3 → jfill m2 113 ((3 : Nat) : Int) 0 113 s = 0 := fun s s0 s1 => jfill_at s0 (show s < ((3 : Nat) : Int) from s1)
      generalize jfill m2 113 ((3 : Nat) : Int) 0 = m3 at *
      have D3 : flD (vv m day n) m3 := flD_fr d2 (by rw [r3 106 (by decide)]) (by rw [r3 106 (by decide)]) (r3 108 (by decide)) (r3 114 (by decide))
      refine c_fewestBuses (p := fun _ => 0) vk vt D3 (fun s s0 s1 => ⟨v3 s s0 s1, (by decide : (-2 : Int) ≤ 0), (by decide : (0 : Int) ≤ 2)⟩) (fun m4 f4 => ?_)
      have r4 : ∀ q, q ≠ 113 → q ≠ 115 → q ≠ 116 → q ≠ 117 → q ≠ 118 → q ≠ 119 → m4 q = m2 q := fun q a b c d e f => by rw [f4 q b c d e f]; exact r3 q a
      have f42 : ∀ q, (q < 106 ∨ 119 < q) → m4 q = m2 q := fun q hq => r4 q (by omega) (by omega) (by omega) (by omega) (by omega) (by omega)
      have g4 : vZ 1 m day n m4 := by
        refine vZ_fl g2 (fl_lo f42) (vwG_lo g2.1 q.1 (by omega) (fun q hq => f42 q (by omega))) (by rw [r4 106 (by decide) (by decide) (by decide) (by decide) (by decide) (by decide)]; exact e2) ⟨z, flD_fr d2 ?_ ?_ (r4 108 (by decide) (by decide) (by decide) (by decide) (by decide) (by decide)) (r4 114 (by decide) (by decide) (by decide) (by decide) (by decide) (by decide)), ?_⟩
        · rw [r4 106 (by decide) (by decide) (by decide) (by decide) (by decide) (by decide)]
        · rw [r4 106 (by decide) (by decide) (by decide) (by decide) (by decide) (by decide)]
        · unfold flS at s2 ⊢
          rw [r4 106 (by decide) (by decide) (by decide) (by decide) (by decide) (by decide), r4 107 (by decide) (by decide) (by decide) (by decide) (by decide) (by decide)]
          exact s2
      have e : nb (vv m day n) (fun _ => 10 * 0) = nb (vv m day n) (fun _ => 0) := nb_cg vk vt (fun s _ _ => rfl)
      show ML iX11_fleet [(2, 139), (0, day), (0, n)] m4 (fun r' m2 => nb (vv m day n) (fun _ => 10 * 0) = r' ∧ qOutF 1 m m2)
      rw [e]
      exact r_fleet h hl g4.2.2.1 (fun m' y _ => absurd z y) (fun m' _ x => ⟨rfl, q_finF h hl g4 x⟩)
/-- findShifts keeps what the asking call keeps -/
theorem c_shiftsZ {m m2 : jM} {Q : Int → jM → Prop} {K day n : Int} (h : qI m) (hl : lkK m day n) (z : hasAll (vv m day n)) (g2 : vZ K m day n m2) (d2 : flD (vv m day n) m2) (s2 : m2 106 5 = 0 ∨ flS (vv m day n) m2) (e2 : m2 106 0 = m2 11 5) (hQ : ∀ m', vZ K m day n m' → flS (vv m day n) m' → Q 0 m') : ML iX2_findShifts [(2, 106)] m2 Q := by
  obtain ⟨q, vk, vt, vd⟩ := lk_K h hl
  refine c_findShifts vk vt d2 s2 (fun m3 r3 i3 s3 => hQ m3 ?_ s3)
  have f3 : ∀ q, (q < 106 ∨ 119 < q) → m3 q = m2 q := fun q hq => r3 q (by omega) (by omega) (by omega) (by omega) (by omega) (by omega) (by omega) (by omega)
  exact vZ_fl g2 (fl_lo f3) (vwG_lo g2.1 q.1 (by omega) (fun q hq => f3 q (by omega))) (by rw [i3 0 (by decide) (by decide)]; exact e2) ⟨z, flD_fr d2 (i3 3 (by decide) (by decide)) (i3 4 (by decide) (by decide)) (r3 108 (by decide) (by decide) (by decide) (by decide) (by decide) (by decide) (by decide) (by decide)) (r3 114 (by decide) (by decide) (by decide) (by decide) (by decide) (by decide) (by decide) (by decide)), Or.inr s3⟩
theorem p_shifted {m : jM} {day n : Int} (h : qI m) (hI : plI m) (hF : flI m) : ML iX10_shifted [(2, 0), (0, day), (0, n)] m (fun r m1 => ML iX11_shifted [(2, 139), (0, day), (0, n)] m1 (fun r' m2 => r = r' ∧ qOutF 1 m m2)) := by
  refine sX10_shifted (c_lookQ h (fun hn => ⟨fun w => absurd rfl w, fun _ => ?_⟩) (fun m1 hl g1 => ⟨fun _ => ?_, fun w => absurd (by decide) w⟩))
  · exact sX11_shifted (r_isDay h agr_rf (fun _ => ⟨fun _ => ⟨rfl, qOutP_F hF (qOut_P hI (qOut_rf h))⟩, fun w => absurd rfl w⟩) (fun y => absurd y hn))
  · refine c_gatherFleet h hl hF (vG_P hI g1) (fun m2 z g2 => ⟨fun w => absurd rfl w, fun _ => ?_⟩) (fun m2 z g2 d2 s2 e2 => ⟨fun _ => c_shiftsZ h hl z g2 d2 s2 e2 (fun m3 g3 s3 => ?_), fun w => absurd (by decide) w⟩)
    · exact sX11_shifted (r_isDay h g2.2.2.1 (fun y => absurd hl y) (fun _ => ⟨fun w => absurd w (by decide), fun _ => r_shiftedFleet h hl g2.2.2.1 (fun m' _ x => ⟨rfl, q_finF h hl g2 x⟩) (fun m' y _ _ => absurd y z)⟩))
    · rw [s3.1]
      exact sX11_shifted (r_isDay h g3.2.2.1 (fun y => absurd hl y) (fun _ => ⟨fun w => absurd w (by decide), fun _ => r_shiftedFleet h hl g3.2.2.1 (fun m' y _ => absurd z y) (fun m' _ x _ => ⟨rfl, q_finF h hl g3 x⟩)⟩))
theorem p_shift {m : jM} {s day n : Int} (h : qI m) (hI : plI m) (hF : flI m) : ML iX10_shift [(2, 0), (0, s), (0, day), (0, n)] m (fun r m1 => ML iX11_shift [(2, 139), (0, s), (0, day), (0, n)] m1 (fun r' m2 => r = r' ∧ qOutF 1 m m2)) := by
  refine sX10_shift (c_lookQ h (fun hn => ⟨fun _ => ?_, fun w => absurd rfl w⟩) (fun m1 hl g1 => ⟨fun w => absurd w (by decide), fun _ => ?_⟩))
  · exact sX11_shift (r_isSchool h agr_rf (fun _ => ⟨fun _ => ⟨rfl, qOutP_F hF (qOut_P hI (qOut_rf h))⟩, fun w => absurd rfl w⟩) (fun y => absurd y hn))
  · obtain ⟨q, vk, vt, vd⟩ := lk_K h hl
    have hN := vt.1
    have gP := vG_P hI g1
    have no : ¬ (0 ≤ s ∧ s < vv m day n 0 2) → ML iX11_shift [(2, 139), (0, s), (0, day), (0, n)] m1 (fun r' m2 => -100 = r' ∧ qOutF 1 m m2) := fun hs => sX11_shift (r_isSchool h g1.2.2.1 (fun _ => ⟨fun _ => ⟨rfl, q_finF h hl (vP_Z hF gP) rfx_rf⟩, fun w => absurd rfl w⟩) (fun _ y0 y1 => absurd ⟨y0, y1⟩ hs))
    rw [g1.1.2.1.1.1, g1.1.2.1.2.1.2.1.2.2.1]
    refine sX10_within ⟨fun a => ⟨fun _ => no (by omega), fun w => absurd rfl w⟩, fun a => ⟨fun b => ⟨fun _ => no (fun w => absurd w.2 (by revert b; exact fun b => by have b' : vv m day n 0 2 ≤ s := b; omega)), fun w => absurd rfl w⟩, fun b => ⟨fun w => absurd w (by decide), fun _ => ?_⟩⟩⟩
    have s0 : 0 ≤ s := by omega
    have s1 : s < vv m day n 0 2 := by have b' : ¬ vv m day n 0 2 ≤ s := b; omega
    refine c_gatherFleet h hl hF gP (fun m2 z g2 => ⟨fun w => absurd rfl w, fun _ => ?_⟩) (fun m2 z g2 d2 s2 e2 => ⟨fun _ => c_shiftsZ h hl z g2 d2 s2 e2 (fun m3 g3 s3 => ⟨s0, by omega, ?_⟩), fun w => absurd (by decide) w⟩)
    · exact sX11_shift (r_isSchool h g2.2.2.1 (fun y => absurd ⟨hl, s0, s1⟩ y) (fun _ _ _ => ⟨fun w => absurd w (by decide), fun _ => r_shiftedFleet h hl g2.2.2.1 (fun m' _ x => ⟨fun w => absurd w (by decide), fun _ => ⟨rfl, q_finF h hl g2 x⟩⟩) (fun m' y _ _ => absurd y z)⟩))
    · rw [s3.2 s s0 (by omega)]
      exact sX11_shift (r_isSchool h g3.2.2.1 (fun y => absurd ⟨hl, s0, s1⟩ y) (fun _ _ _ => ⟨fun w => absurd w (by decide), fun _ => r_shiftedFleet h hl g3.2.2.1 (fun m' y _ => absurd z y) (fun m' _ x hp => ⟨fun _ => ⟨s0, by omega, by rw [hp s s0 (by omega)], q_finF h hl g3 x⟩, fun w => absurd (shN_end vk vt) w⟩)⟩))

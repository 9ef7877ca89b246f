/-! altered -/
theorem sh20 : ∀ c : Fin 20, 0 ≤ jshl 1 ((c : Nat) : Int) ∧ jshl 1 ((c : Nat) : Int) < 1048576 := by decide +kernel
theorem c_rightHolders {m m1 : jM} {Q : Int → jM → Prop} {K day n : Int} (h : qI m) (hl : lkK m day n) (g : vG K m day n m1) (hQ : ∀ m2 r, vG K m day n m2 → 0 ≤ r → r < 1048576 → (∀ i, 0 ≤ i → i < 20 → (tb r i = true ↔ i < vv m day n 0 7 ∧ vRgt (vv m day n) i ≠ -1)) → Q r m2) : ML iX10_rightHolders [(2, 0)] m1 Q := by
  obtain ⟨q, vk, vt, vd⟩ := lk_K h hl
  have k20 := vk.1.2.2.2.2
  refine sX10_rightHolders (c_judgeAll vk vt g.1 (fun m2 f2 w2 b2 => ?_))
  have g2 := vG_jg h hl g f2 w2
  have e6 : m2 11 6 = vv m day n 0 7 := w2.2.1.1.2.2.2
  refine lup (n := vv m day n 0 7) (I := fun c r => 0 ≤ c ∧ c ≤ vv m day n 0 7 ∧ 0 ≤ r ∧ r < 1048576 ∧ ∀ i, 0 ≤ i → i < 20 → (tb r i = true ↔ i < c ∧ vRgt (vv m day n) i ≠ -1)) (G := fun c r => GL iX10_rightHolders m2 11 [(2, 0), (0, r), (0, c)] [] Q) ?_ ?_ 0 0 ⟨by decide, by omega, by decide, by decide, fun i i0 _ => by rw [tb_zero]; exact ⟨fun w => absurd w (by decide), fun w => by omega⟩⟩
  · rintro c r hc ⟨c0, -, r0, r1, hr⟩ K
    have j := w2.2.2.2.2.2 c c0 hc (b2 c c0 hc)
    have s := sh20 ⟨c.toNat, by omega⟩
    simp only [Int.toNat_of_nonneg c0] at s
    have o := jor20 r0 r1 s.1 s.2
    refine sX10_rightHolders_11 ?_
    rw [e6, j.1, jw_id (x := c + 1) (by omega) (by omega)]
    refine ⟨fun w => absurd w (by omega), fun _ => ⟨c0, by omega, fun z => K r ⟨by omega, by omega, r0, r1, fun i i0 i1 => ?_⟩, fun z => K _ ⟨by omega, by omega, o.1.1, o.1.2, fun i i0 i1 => ?_⟩⟩⟩
    · rw [hr i i0 i1]
      constructor
      · exact fun w => ⟨by omega, w.2⟩
      · intro w
        have : i ≠ c := fun e => w.2 (by rw [e]; exact z)
        exact ⟨by omega, w.2⟩
    · rw [o.2 i i0 i1, hr i i0 i1, tb_shl1 c0 (by omega) i0]
      constructor
      · rintro (w | w)
        · exact ⟨by omega, w.2⟩
        · have e : i = c := of_decide_eq_true w
          rw [e]
          exact ⟨by omega, z⟩
      · intro w
        by_cases e : i = c
        · right; exact decide_eq_true e
        · left; exact ⟨by omega, w.2⟩
  · rintro c r hc ⟨c0, c1, r0, r1, hr⟩
    obtain rfl : c = vv m day n 0 7 := by omega
    refine sX10_rightHolders_11 ?_
    rw [e6]
    exact ⟨fun _ => hQ m2 r g2 r0 r1 hr, fun w => absurd (Int.le_refl _) w⟩
/-- altered: one has a right, the other has none -/
noncomputable def altF (V W : jM) (K : Int) (c : Int) : Int := @ite _ (c < K ∧ ¬ (vRgt V c = -1 ↔ vRgt W c = -1)) (Classical.propDecidable _) 1 0
theorem alt_cnt {V W : jM} {K a b : Int} (k20 : K ≤ 20) (a0 : 0 ≤ a) (a1 : a < 1048576) (b0 : 0 ≤ b) (b1 : b < 1048576) (ha : ∀ i, 0 ≤ i → i < 20 → (tb a i = true ↔ i < K ∧ vRgt V i ≠ -1)) (hb : ∀ i, 0 ≤ i → i < 20 → (tb b i = true ↔ i < K ∧ vRgt W i ≠ -1)) {N : Nat} (hN : K ≤ N) (n20 : N ≤ 20) : jbc (jxor a b) = sumN (altF V W K) N := by
  rw [jbc_20 (jxor_nn (by omega) (by omega)) (jxor_lt (k := 20) ⟨a0, a1⟩ ⟨b0, b1⟩ (by decide))]
  unfold cnt
  have e : sumN (fun i => if tb (jxor a b) i = true then 1 else 0) 20 = sumN (altF V W K) 20 := by
    refine sumN_cg 20 (fun i i0 i1 => ?_)
    have i1 : i < 20 := i1
    rw [tb_xor (by omega) (by omega) i0 (by omega)]
    have xa := ha i i0 i1
    have xb := hb i i0 i1
    unfold altF
    by_cases hk : i < K <;> by_cases p : vRgt V i = -1 <;> by_cases q : vRgt W i = -1 <;> simp [hk, p, q] at xa xb <;> simp [xa, xb, hk, p, q]
  rw [e]
  have x := sumN_ext (f := altF V W K) (g := altF V W K) (K := N) (fun i _ _ => rfl) (20 - N) (fun i i0 _ => by unfold altF; rw [if_neg (fun w => by omega)])
  rw [show N + (20 - N) = 20 by omega] at x
  exact x
theorem r_altered {m m1 : jM} {Q : Int → jM → Prop} {day other n : Int} (h : qI m) (hl : lkK m day n) (hl2 : lkK m other n) (ha : agr kpD kpF m m1) (hQ : ∀ m', rfx m1 m' → Q (sumN (altF (vv m day n) (vv m other n) (kn m n)) (m 139 50).toNat) m') : ML iX11_altered [(2, 139), (0, day), (0, other), (0, n)] m1 Q := by
  have fi := h.1.1.1
  have e50 : ∀ m2, rfx m1 m2 → m2 139 50 = m 139 50 := fun m2 x => (agr_at x.2 139 50 (by decide)).trans (agr_at ha 139 50 (by decide))
  refine sX11_altered (r_isDay h ha (fun z => absurd hl z) (fun _ => ⟨fun w => absurd w (by decide), fun _ => r_isDay h ha (fun z => absurd hl2 z) (fun _ => ⟨fun _ => r_lay h hl ha (fun m2 f2 x2 G2 => ?_), fun w => absurd (by decide) w⟩)⟩))
  obtain ⟨q, vk, vt, vd⟩ := lk_K h hl
  obtain ⟨q2, vk2, vt2, vd2⟩ := lk_K h hl2
  have keep : ∀ {V : jM} {k : Int} {ma mb : jM}, frx [192, 193, 194] [] ma mb → rG V k ma → rG V k mb := fun f G => rG_fr G (f 139 69 (by decide) (by decide)) (f 139 12 (by decide) (by decide)) (f 139 44 (by decide) (by decide)) (f 139 50 (by decide) (by decide)) (agr_of f (by decide))
  have rfk : ∀ {ma mb : jM}, frx [192, 193, 194] [] ma mb → rfx ma mb := fun f => rfx_of f (by decide)
  refine lup (n := m 139 50) (I := fun c m3 => 0 ≤ c ∧ c ≤ m 139 50 ∧ frx [192, 193, 194] [] m2 m3 ∧ ∀ x, 0 ≤ x → x < c → m3 194 x = @ite _ (x < kn m n ∧ vRgt (vv m day n) x ≠ -1) (Classical.propDecidable _) 1 0) (G := fun c m3 => GL iX11_altered m3 29 [(2, 139), (0, day), (0, other), (0, n), (0, c), (9, 0)] [] Q) ?_ ?_ 0 m2 ⟨by decide, by omega, frx_rf, fun x x0 x1 => by omega⟩
  · rintro c m3 hc ⟨c0, -, f3, h3⟩ K
    have x3 := rfx_tr x2 (rfk f3)
    have G3 := keep f3 G2
    have nx : ∀ m4 v, frx [192, 193, 194] [] m2 m4 → m4 194 = m3 194 → v = @ite _ (c < kn m n ∧ vRgt (vv m day n) c ≠ -1) (Classical.propDecidable _) 1 0 → GL iX11_altered (jup m4 194 c v) 29 [(2, 139), (0, day), (0, other), (0, n), (0, c + 1), (9, 0)] [] Q := by
      intro m4 v f4 e4 hv
      refine K _ ⟨by omega, by omega, frx_upA f4 (by decide), fun x x0 x1 => ?_⟩
      rw [jup_self]
      by_cases e : x = c
      · rw [if_pos e, e]; exact hv
      · rw [if_neg e, e4]; exact h3 x x0 (by omega)
    refine sX11_altered_29 ?_
    rw [e50 m3 x3, jw_id (x := c + 1) (by omega) (by omega)]
    refine ⟨fun w => absurd w (by omega), fun _ => r_isKnownChild h (agr_tr ha x3.2) (fun z => ⟨fun _ => ⟨c0, by omega, nx m3 0 f3 rfl ?_⟩, fun w => absurd rfl w⟩) (fun _ ck => ⟨fun w => absurd w (by decide), fun _ => c_rightOfR vk vt vd (rG_lI G3) G3.2.2.2.1 G3.2.2.2.2.1 G3.2.2.2.2.2 c0 ck (fun m4 f4 => ?_)⟩)⟩
    · rw [if_neg (fun w => z ⟨c0, w.1⟩)]
    · have f4' : frx [192, 193, 194] [] m2 m4 := frx_tr f3 (frx_mono (frx_fr (K := []) f4) (by decide) (by decide))
      have e4 : m4 194 = m3 194 := f4 194 (by decide)
      refine ⟨fun z => ⟨c0, by omega, nx m4 0 f4' e4 ?_⟩, fun z => ⟨c0, by omega, nx m4 1 f4' e4 ?_⟩⟩
      · rw [if_neg (fun w => ?_)]
        rw [if_neg w.2] at z
        have : vRgt (vv m day n) c = -1 ∨ (0 ≤ vRgt (vv m day n) c ∧ _) := frS_in vt (vX (vv m day n) c)
        omega
      · rw [if_pos ⟨ck, fun w => z (by rw [if_pos w]; decide)⟩]
  · rintro c m3 hc ⟨c0, c1, f3, h3⟩
    obtain rfl : c = m 139 50 := by omega
    have x3 := rfx_tr x2 (rfk f3)
    refine sX11_altered_29 ?_
    rw [e50 m3 x3]
    refine ⟨fun _ => r_lay h hl2 (agr_tr ha x3.2) (fun m4 f4 x4 G4 => ?_), fun w => absurd (Int.le_refl _) w⟩
    have e4 : m4 194 = m3 194 := frx_row f4 194 (by decide) (by decide)
    refine lup2 (n := m 139 50) (I := fun c m5 r => 0 ≤ c ∧ c ≤ m 139 50 ∧ frx [192, 193] [] m4 m5 ∧ r = sumN (altF (vv m day n) (vv m other n) (kn m n)) c.toNat) (G := fun c m5 r => GL iX11_altered m5 89 [(2, 139), (9, 0), (0, other), (0, n), (0, r), (0, c)] [] Q) ?_ ?_ 0 m4 0 ⟨by decide, by omega, frx_rf, rfl⟩
    · rintro c m5 r hc2 ⟨c0, -, f5, hr⟩ K
      have f5' : frx [192, 193, 194] [] m4 m5 := frx_mono f5 (by decide) (by decide)
      have x5 := rfx_tr x3 (rfx_tr x4 (rfk f5'))
      have G5 := keep f5' G4
      have r_in : 0 ≤ r ∧ r ≤ 20 := by
        have s1 := sumN_ge (f := altF (vv m day n) (vv m other n) (kn m n)) (L := 0) c.toNat (fun i _ _ => by unfold altF; split <;> decide)
        have s2 := sumN_le (f := altF (vv m day n) (vv m other n) (kn m n)) (L := 1) c.toNat (fun i _ _ => by unfold altF; split <;> decide)
        rw [hr]; omega
      have e : sumN (altF (vv m day n) (vv m other n) (kn m n)) (c + 1).toNat = r + altF (vv m day n) (vv m other n) (kn m n) c := by
        rw [show (c + 1).toNat = c.toNat + 1 by omega, hr]
        show _ + altF _ _ _ ((c.toNat : Nat) : Int) = _
        rw [Int.toNat_of_nonneg c0]
      have v5 : m5 194 c = @ite _ (c < kn m n ∧ vRgt (vv m day n) c ≠ -1) (Classical.propDecidable _) 1 0 := by
        rw [frx_row f5 194 (by decide) (by decide), e4]
        exact h3 c c0 hc2
      refine sX11_altered_89 ?_
      rw [e50 m5 x5, jw_id (x := c + 1) (by omega) (by omega), jw_id (x := r + 1) (by omega) (by omega)]
      refine ⟨fun w => absurd w (by omega), fun _ => r_isKnownChild h (agr_tr ha x5.2) (fun z => ⟨fun _ => K m5 r ⟨by omega, by omega, f5, ?_⟩, fun w => absurd rfl w⟩) (fun _ ck => ⟨fun w => absurd w (by decide), fun _ => ⟨c0, by omega, c_rightOfR vk2 vt2 vd2 (rG_lI G5) G5.2.2.2.1 G5.2.2.2.2.1 G5.2.2.2.2.2 c0 ck (fun m6 f6 => ?_)⟩⟩)⟩
      · rw [e]
        unfold altF
        rw [if_neg (fun w => z ⟨c0, w.1⟩)]
        omega
      · have f6' : frx [192, 193] [] m4 m6 := frx_tr f5 (frx_fr (K := []) f6)
        have vi : vRgt (vv m other n) c = -1 ∨ (0 ≤ vRgt (vv m other n) c ∧ _) := frS_in vt2 (vX (vv m other n) c)
        by_cases p : vRgt (vv m day n) c = -1
        · have v0 : m5 194 c = 0 := by rw [v5, if_neg (fun w => w.2 p)]
          rw [v0]
          refine ⟨fun z => ⟨fun _ => K m6 r ⟨by omega, by omega, f6', ?_⟩, fun w => absurd rfl w⟩, fun z => ⟨fun w => absurd w (by decide), fun _ => K m6 (r + 1) ⟨by omega, by omega, f6', ?_⟩⟩⟩
          · have p2 : vRgt (vv m other n) c = -1 := Classical.byContradiction (fun w => by rw [if_neg w] at z; omega)
            rw [e]; unfold altF
            rw [if_neg (fun w => w.2 (by simp [p, p2]))]
            omega
          · have p2 : vRgt (vv m other n) c ≠ -1 := fun w => z (by rw [if_pos w]; decide)
            rw [e]; unfold altF
            rw [if_pos ⟨ck, by simp [p, p2]⟩]
        · have v0 : m5 194 c = 1 := by rw [v5, if_pos ⟨ck, p⟩]
          rw [v0]
          refine ⟨fun z => ⟨fun w => absurd w (by decide), fun _ => K m6 (r + 1) ⟨by omega, by omega, f6', ?_⟩⟩, fun z => ⟨fun _ => K m6 r ⟨by omega, by omega, f6', ?_⟩, fun w => absurd rfl w⟩⟩
          · have p2 : vRgt (vv m other n) c = -1 := Classical.byContradiction (fun w => by rw [if_neg w] at z; omega)
            rw [e]; unfold altF
            rw [if_pos ⟨ck, by simp [p, p2]⟩]
          · have p2 : vRgt (vv m other n) c ≠ -1 := fun w => z (by rw [if_pos w]; decide)
            rw [e]; unfold altF
            rw [if_neg (fun w => w.2 (by simp [p, p2]))]
            omega
    · rintro c m5 r hc2 ⟨c0, c1, f5, hr⟩
      obtain rfl : c = m 139 50 := by omega
      have f5' : frx [192, 193, 194] [] m4 m5 := frx_mono f5 (by decide) (by decide)
      have x5 := rfx_tr x3 (rfx_tr x4 (rfk f5'))
      refine sX11_altered_89 ?_
      rw [e50 m5 x5]
      rw [hr]
      exact ⟨fun _ => hQ m5 x5, fun w => absurd (Int.le_refl _) w⟩
theorem c_inForceC {m : jM} {Q : Int → jM → Prop} {day : Int} (h : txInv m) (hQ : Q (frc m day) m) : ML iX10_inForce [(2, 0), (0, day)] m Q := by
  have xt := h.1
  exact c_inForce xt.1 xt.2.1 xt.2.2 (fun j j0 j1 => (h.2 j j0 j1).1) hQ
theorem p_altered {m : jM} {day other n : Int} (h : qI m) (hs : m 11 5 + 10000 ≤ 20000000) (hI : plI m) (hF : flI m) : ML iX10_altered [(2, 0), (0, day), (0, other), (0, n)] m (fun r m1 => ML iX11_altered [(2, 139), (0, day), (0, other), (0, n)] m1 (fun r' m2 => r = r' ∧ qOutF 10000 m m2)) := by
  have out0 : qOutF 10000 m m := qF_mo (qF_rf h hI hF) (by decide)
  have xt := h.2.1.1
  have fi := frc_in xt.1 other
  -- no answer
  have no : ∀ m1, qOutF 10000 m m1 → ¬ (lkK m day n ∧ lkK m other n) → ML iX11_altered [(2, 139), (0, day), (0, other), (0, n)] m1 (fun r' m2 => -1 = r' ∧ qOutF 10000 m m2) := by
    intro m1 g1 hn
    exact sX11_altered (r_isDay h g1.2.1 (fun _ => ⟨fun _ => ⟨rfl, g1⟩, fun w => absurd rfl w⟩) (fun hl => ⟨fun w => absurd w (by decide), fun _ => r_isDay h g1.2.1 (fun _ => ⟨fun w => absurd rfl w, fun _ => ⟨rfl, g1⟩⟩) (fun hl2 => absurd ⟨hl, hl2⟩ hn)⟩))
  refine sX10_altered (c_inForceC h.2.1 ⟨fun z => no m out0 (fun w => ?_), fun z => c_lookQ h (fun hn => ⟨fun w => absurd rfl w, fun _ => no m out0 (fun w => hn w.1)⟩) (fun m1 hl g1 => ⟨fun _ => ?_, fun w => absurd (by decide) w⟩)⟩)
  · have := w.2.1
    omega
  · refine c_rightHolders h hl g1 (fun m2 a g2 a0 a1 ha => ?_)
    have o2 : qOutF 1 m m2 := q_finF h hl (vP_Z hF (vG_P hI g2)) rfx_rf
    have q2 : qI m2 := qF_qI h o2 (by omega) (by decide)
    have lk2 := lkK_cg o2.2.1 other n
    refine c_lookQ q2 (fun hn => ⟨fun w => absurd rfl w, fun _ => no m2 (qF_mo o2 (by decide)) (fun w => hn (lk2.mpr w.2))⟩) (fun m3 hl2 g3 => ⟨fun _ => ?_, fun w => absurd (by decide) w⟩)
    have hl2' := lk2.mp hl2
    refine c_rightHolders q2 hl2 g3 (fun m4 b g4 b0 b1 hb => c_bitCount ?_)
    have o4 : qOutF 1 m2 m4 := q_finF q2 hl2 (vP_Z o2.2.2.2.2 (vG_P o2.2.2.2.1 g4)) rfx_rf
    have o : qOutF 10000 m m4 := qF_mo (qF_tr o2 o4 (by decide) (by decide)) (by decide)
    rw [vv_cg o2.2.1] at hb
    have kb := kn_nn m n h.1.1.1.2.2.1
    have c20 := h.1.1.1.2.2.2
    have e7 : vv m day n 0 7 = kn m n := rfl
    have e8 : vv m other n 0 7 = kn m n := rfl
    rw [e7] at ha
    rw [e8] at hb
    have ec := alt_cnt (V := vv m day n) (W := vv m other n) (K := kn m n) (N := (m 139 50).toNat) (by omega) a0 a1 b0 b1 ha hb (by omega) (by omega)
    refine r_altered h hl hl2' o.2.1 (fun m5 x5 => ⟨ec, ?_⟩)
    exact qF_0 o (by rw [agr_at o.2.1 139 12 (by decide)]; exact xt.2.1) (fun p _ p1 => x5.1 p p1) x5.2

/-! a memory cut down to places and fields -/
def res (D : List Int) (DF : List (Int × Int)) (m : jM) : jM := fun p i => if D.contains p || DF.contains (p, i) then m p i else 0
theorem res_row {D : List Int} {DF : List (Int × Int)} {m : jM} (p : Int) (h : D.contains p = true) : res D DF m p = m p := by
  funext i
  unfold res
  rw [h, Bool.true_or, if_pos rfl]
theorem res_at {D : List Int} {DF : List (Int × Int)} {m : jM} (p i : Int) (h : DF.contains (p, i) = true) : res D DF m p i = m p i := by
  unfold res
  rw [h, Bool.or_true, if_pos rfl]
theorem res_cg {D : List Int} {DF : List (Int × Int)} {m m' : jM} (h : agr D DF m m') : res D DF m' = res D DF m := by
  funext p i
  unfold res
  by_cases h1 : D.contains p = true
  · rw [h1, Bool.true_or, if_pos rfl, if_pos rfl, h.1 p (by simpa using h1)]
  · by_cases h2 : DF.contains (p, i) = true
    · rw [h2, Bool.or_true, if_pos rfl, if_pos rfl]
      exact h.2 (p, i) (by simpa using h2)
    · rw [Bool.not_eq_true] at h1 h2
      rw [h1, h2]
      rfl
/-! drivers in the reference -/
theorem c_covers {d m : jM} {Q : Int → jM → Prop} {k : Int} (hk : crK d) (hr : crR d m) (k0 : 1 ≤ k) (k1 : k ≤ 10) (hQ : ∀ m', fr [216] m m' → (∀ r t, 0 ≤ r → r ≤ k → 0 ≤ t → t < 256 → m' 216 (256 * r + t) = crL d k r t) → Q 0 m') : ML iX11_covers [(2, 139), (0, k)] m Q := by
  have h8 := hk.2.1
  have ok : ∀ m1, fr [216] m m1 → crR d m1 := by
    intro m1 hf
    unfold crR at hr ⊢
    rw [hf 139 (by decide), hf 183 (by decide), hf 184 (by decide), hf 185 (by decide)]
    exact hr
  refine sX11_covers ?_
  refine lup (n := 256) (I := fun t m1 => 0 ≤ t ∧ fr [216] m m1 ∧ ∀ t', 0 ≤ t' → t' < t → m1 216 (256 * k + t') = 0) (G := fun t m1 => GL iX11_covers m1 2 [(2, 139), (0, k), (0, t), (9, 0), (9, 0), (9, 0), (9, 0)] [] Q) ?_ ?_ 0 m ⟨by decide, fr_rf, fun t' h0 h1 => by omega⟩
  · rintro t m1 ht ⟨t0, hf, hz⟩ K
    refine sX11_covers_2 ⟨fun c => absurd c (by omega), fun _ => ?_⟩
    rw [jw_id (x := 256 * k) (by omega) (by omega), jw_id (x := 256 * k + t) (by omega) (by omega), jw_id (x := t + 1) (by omega) (by omega)]
    refine ⟨by omega, by omega, K _ ⟨by omega, fr_up hf (by decide), fun t' h0 h1 => ?_⟩⟩
    rw [jup_self]
    by_cases e : t' = t
    · rw [if_pos (by omega)]
    · rw [if_neg (by omega)]; exact hz t' h0 (by omega)
  · rintro t m1 ht ⟨t0, hf, hz⟩
    refine sX11_covers_2 ⟨fun _ => ?_, fun c => absurd ht c⟩
    rw [jw_id (x := k - 1) (by omega) (by omega)]
    refine ldn (I := fun r m2 => -1 ≤ r ∧ r < k ∧ fr [216] m m2 ∧ ∀ r' t', r < r' → r' ≤ k → 0 ≤ t' → t' < 256 → m2 216 (256 * r' + t') = crL d k r' t') (G := fun r m2 => GL iX11_covers m2 32 [(2, 139), (9, 0), (0, r), (9, 0), (9, 0), (9, 0), (9, 0)] [] Q) ?_ ?_ (k - 1) m1 ⟨by omega, by omega, hf, fun r' t' h0 h1 h2 h3 => ?_⟩
    · rintro r m2 r0 ⟨-, r1, hf2, hI⟩ K2
      refine sX11_covers_32 ⟨fun c => absurd c (by omega), fun _ => ?_⟩
      refine lup (n := 256) (I := fun t m3 => 0 ≤ t ∧ t ≤ 256 ∧ fr [216] m m3 ∧ (∀ r' t', r < r' → r' ≤ k → 0 ≤ t' → t' < 256 → m3 216 (256 * r' + t') = crL d k r' t') ∧ ∀ t', 0 ≤ t' → t' < t → m3 216 (256 * r + t') = crL d k r t') (G := fun t m3 => GL iX11_covers m3 38 [(2, 139), (9, 0), (0, r), (0, t), (9, 0), (9, 0), (9, 0)] [] Q) ?_ ?_ 0 m2 ⟨by decide, by decide, hf2, hI, fun t' h0 h1 => by omega⟩
      · rintro t m3 ht3 ⟨t30, -, hf3, hI3, hz3⟩ K3
        have hr3 := ok m3 hf3
        have e1 := hI3 (r + 1) t (by omega) (by omega) t30 ht3
        have b1 := crL_bd hk k1 (r := r + 1) (by omega) (by omega) t
        have hw := hk.2.2.2 r r0 (by omega)
        refine sX11_covers_38 ⟨fun c => absurd c (by omega), fun _ => ?_⟩
        rw [jw_id (x := 256 * r) (by omega) (by omega), jw_id (x := 256 * r + 256) (by omega) (by omega), jw_id (x := 256 * r + 256 + t) (by omega) (by omega), show 256 * r + 256 + t = 256 * (r + 1) + t by omega, e1, hr3.2.2.2, jw_id (by omega) (by omega)]
        refine ⟨by omega, by omega, r0, by omega, ?_⟩
        refine lup2 (n := d 139 56) (I := fun x (m' : jM) v => 0 ≤ x ∧ x ≤ d 139 56 ∧ m' = m3 ∧ v = crG d r t (crL d k (r + 1)) x.toNat) (G := fun x m' v => GL iX11_covers m' 73 [(2, 139), (9, 0), (0, r), (0, t), (0, v), (0, x), (9, 0)] [] Q) ?_ ?_ 0 m3 _ ⟨by decide, hk.1, rfl, rfl⟩
        · rintro x m' v hx ⟨x0, x1, rfl, rfl⟩ K4
          have nx : crG d r t (crL d k (r + 1)) (x + 1).toNat = if crM d x r t then min (crG d r t (crL d k (r + 1)) x.toNat) (crL d k (r + 1) (jor t (jshl 1 x))) else crG d r t (crL d k (r + 1)) x.toNat := by
            rw [show (x + 1).toNat = x.toNat + 1 by omega]
            simp only [crG]
            rw [Int.toNat_of_nonneg x0]
          refine sX11_covers_73 ⟨fun c => absurd c (by rw [hr3.1]; omega), fun _ => ?_⟩
          refine c_mayDrive hk hr3 x0 hx r0 (by omega) t30 ht3 (fun v h1 h0 => ?_)
          rw [jw_id (x := x + 1) (by omega) (by omega), jw_id (x := 256 * r) (by omega) (by omega), jw_id (x := 256 * r + 256) (by omega) (by omega)]
          have b := jor_bit (n := 8) (by decide) t30 (by omega) x0 (by omega)
          have e2 := hI3 (r + 1) (jor t (jshl 1 x)) (by omega) (by omega) b.1 (by omega)
          rw [jw_id (x := 256 * r + 256 + jor t (jshl 1 x)) (by omega) (by omega), show 256 * r + 256 + jor t (jshl 1 x) = 256 * (r + 1) + jor t (jshl 1 x) by omega, e2]
          refine ⟨fun c => ?_, fun c => K4 _ _ ⟨by omega, by omega, rfl, ?_⟩⟩
          · have hM : crM d x r t := Classical.byContradiction (fun z => c (h0 z))
            refine ⟨by omega, by omega, fun c2 => K4 _ _ ⟨by omega, by omega, rfl, ?_⟩, fun c2 => K4 _ _ ⟨by omega, by omega, rfl, ?_⟩⟩
            · rw [nx, if_pos hM, Int.min_eq_left c2]
            · rw [nx, if_pos hM, Int.min_eq_right (by omega)]
          · rw [nx, if_neg (fun z => c (by rw [h1 z]; decide))]
        · rintro x m' v hx ⟨x0, x1, rfl, rfl⟩
          obtain rfl : x = d 139 56 := by omega
          refine sX11_covers_73 ⟨fun _ => ?_, fun c => absurd (by rw [hr3.1]; exact Int.le_refl _) c⟩
          rw [← crL_eq r1, jw_id (x := 256 * r) (by omega) (by omega), jw_id (x := 256 * r + t) (by omega) (by omega), jw_id (x := t + 1) (by omega) (by omega)]
          refine ⟨by omega, by omega, K3 _ ⟨by omega, by omega, fr_up hf3 (by decide), fun r' t' h0 h1 h2 h3 => ?_, fun t' h0 h1 => ?_⟩⟩
          · rw [jup_self, if_neg (by omega)]
            exact hI3 r' t' h0 h1 h2 h3
          · rw [jup_self]
            by_cases e : t' = t
            · rw [if_pos (by omega), e]
            · rw [if_neg (by omega)]
              exact hz3 t' h0 (by omega)
      · rintro t m3 ht3 ⟨t30, t31, hf3, hI3, hz3⟩
        obtain rfl : t = 256 := by omega
        refine sX11_covers_38 ⟨fun _ => ?_, fun c => absurd ht3 c⟩
        rw [jw_id (x := r + -1) (by omega) (by omega)]
        refine K2 m3 ⟨by omega, by omega, hf3, fun r' t' h0 h1 h2 h3 => ?_⟩
        by_cases e : r' = r
        · rw [e]
          exact hz3 t' h2 h3
        · exact hI3 r' t' (by omega) h1 h2 h3
    · rintro r m2 r0 ⟨r00, r1, hf2, hI⟩
      obtain rfl : r = -1 := by omega
      exact sX11_covers_32 ⟨fun _ => hQ m2 hf2 (fun r t h0 h1 h2 h3 => hI r t (by omega) h1 h2 h3), fun c => absurd (by decide) c⟩
    · obtain rfl : r' = k := by omega
      rw [crL_k]
      exact hz t' h2 (by omega)
/-- drives of the reference, behind covers -/
theorem c_drives {d m : jM} {Q : Int → jM → Prop} {k b : Int} (hk : crK d) (hr : crR d m) (k0 : 1 ≤ k) (k1 : k ≤ 10) (b0 : 0 ≤ b) (b1 : b < k) (hL : ∀ r t, 0 ≤ r → r ≤ k → 0 ≤ t → t < 256 → m 216 (256 * r + t) = crL d k r t) (hQ : Q (if crWho d k b (crT d k b.toNat) = -1 then -2 else crWho d k b (crT d k b.toNat)) m) : GL iX11_drives m 35 [(2, 139), (9, 0), (0, b), (0, 0), (0, -2), (0, 0), (9, 0)] [] Q := by
  have h8 := hk.2.1
  have h80 := hk.1
  refine lup3 (n := b + 1) (I := fun r (m' : jM) t w => 0 ≤ r ∧ r ≤ b + 1 ∧ m' = m ∧ t = crT d k r.toNat ∧ (0 < r → w = if crWho d k (r - 1) (crT d k (r - 1).toNat) = -1 then -2 else crWho d k (r - 1) (crT d k (r - 1).toNat))) (G := fun r m' t w => GL iX11_drives m' 35 [(2, 139), (9, 0), (0, b), (0, t), (0, w), (0, r), (9, 0)] [] Q) ?_ ?_ 0 m 0 (-2) ⟨by decide, by omega, rfl, rfl, fun h => by omega⟩
  · rintro r m' t w hr1 ⟨r0, -, rfl, rfl, hw⟩ K
    have hv := crT_V hk k r.toNat
    rw [Int.toNat_of_nonneg r0] at hv
    generalize ht : crT d k r.toNat = t at *
    have t256 := cr256 hk hv.2.1
    have t0 := hv.1
    have e1 := hL r t r0 (by omega) t0 t256
    refine sX11_drives_35 ⟨fun c => absurd c (by omega), fun _ => ?_⟩
    rw [hr.1, jw_id (x := d 139 56 - 1) (by omega) (by omega)]
    refine ldn2 (I := fun x (m2 : jM) w => -1 ≤ x ∧ x < d 139 56 ∧ m2 = m' ∧ w = if crW d k r t (d 139 56 - 1 - x).toNat = -1 then -2 else crW d k r t (d 139 56 - 1 - x).toNat) (G := fun x m2 w => GL iX11_drives m2 53 [(2, 139), (9, 0), (0, b), (0, t), (0, w), (0, r), (0, x)] [] Q) ?_ ?_ (d 139 56 - 1) m' (-2) ⟨by omega, by omega, rfl, by rw [show (d 139 56 - 1 - (d 139 56 - 1)).toNat = 0 by omega]; rfl⟩
    · rintro x m2 w x0 ⟨-, x1, rfl, rfl⟩ K2
      have nx : crW d k r t (d 139 56 - 1 - (x - 1)).toNat = if crOk d k r t x then x else crW d k r t (d 139 56 - 1 - x).toNat := by
        rw [show (d 139 56 - 1 - (x - 1)).toNat = (d 139 56 - 1 - x).toNat + 1 by omega]
        simp only [crW]
        rw [show d 139 56 - (((d 139 56 - 1 - x).toNat + 1 : Nat) : Int) = x by omega]
      refine sX11_drives_53 ⟨fun c => absurd c (by omega), fun _ => ?_⟩
      refine c_mayDrive hk hr x0 x1 r0 (by omega) t0 t256 (fun v h1 h0 => ?_)
      rw [jw_id (x := x + -1) (by omega) (by omega), show x + -1 = x - 1 by omega, jw_id (x := 256 * r) (by omega) (by omega), jw_id (x := 256 * r + 256) (by omega) (by omega), jw_id (x := 256 * r + t) (by omega) (by omega)]
      have bb := jor_bit (n := 8) (by decide) t0 (by omega) x0 (by omega)
      have e2 := hL (r + 1) (jor t (jshl 1 x)) (by omega) (by omega) bb.1 (by omega)
      rw [jw_id (x := 256 * r + 256 + jor t (jshl 1 x)) (by omega) (by omega), show 256 * r + 256 + jor t (jshl 1 x) = 256 * (r + 1) + jor t (jshl 1 x) by omega, e2, e1]
      refine ⟨fun c => K2 _ _ ⟨by omega, by omega, rfl, ?_⟩, fun c => ?_⟩
      · rw [nx, if_neg (show ¬ crOk d k r t x from fun z => by have := h1 z.1; omega)]
      · have hM : crM d x r t := Classical.byContradiction (fun z => c (h0 z))
        refine ⟨by omega, by omega, by omega, by omega, fun c2 => K2 _ _ ⟨by omega, by omega, rfl, ?_⟩, fun c2 => K2 _ _ ⟨by omega, by omega, rfl, ?_⟩⟩
        · rw [nx, if_neg (show ¬ crOk d k r t x from fun z => c2 z.2)]
        · rw [nx, if_pos (show crOk d k r t x from ⟨hM, Classical.byContradiction c2⟩), if_neg (by omega)]
    · rintro x m2 w x0 ⟨x00, x1, rfl, rfl⟩
      obtain rfl : x = -1 := by omega
      rw [show (d 139 56 - 1 - -1).toNat = (d 139 56).toNat by omega]
      have nx : crT d k (r + 1).toNat = if crWho d k r t = -1 then t else jor t (jshl 1 (crWho d k r t)) := by
        rw [show (r + 1).toNat = r.toNat + 1 by omega]
        simp only [crT]
        rw [Int.toNat_of_nonneg r0, ht]
      have hin := crWho_in hk k r t
      refine sX11_drives_53 ⟨fun _ => ?_, fun c => absurd (by decide) c⟩
      rw [jw_id (x := r + 1) (by omega) (by omega)]
      show (_ → _) ∧ (_ → _)
      have hw2 : ∀ w, w = (if crWho d k r t = -1 then -2 else crWho d k r t) → (0 < r + 1 → w = if crWho d k (r + 1 - 1) (crT d k (r + 1 - 1).toNat) = -1 then -2 else crWho d k (r + 1 - 1) (crT d k (r + 1 - 1).toNat)) := by
        intro w hw _
        rw [show r + 1 - 1 = r by omega, ht]
        exact hw
      refine ⟨fun c => K _ _ _ ⟨by omega, by omega, rfl, ?_, hw2 _ rfl⟩, fun c => K _ _ _ ⟨by omega, by omega, rfl, ?_, hw2 _ rfl⟩⟩
      · rw [nx, if_pos]
        apply Classical.byContradiction
        intro hn
        have e : crW d k r t (d 139 56).toNat = crWho d k r t := rfl
        rw [e, if_neg hn] at c
        omega
      · have e : crW d k r t (d 139 56).toNat = crWho d k r t := rfl
        rw [e] at c ⊢
        have hn : ¬ crWho d k r t = -1 := by
          intro z
          rw [if_pos z] at c
          exact c (by decide)
        rw [nx, if_neg hn, if_neg hn]
  · rintro r m' t w hr1 ⟨r0, r1, rfl, rfl, hw⟩
    obtain rfl : r = b + 1 := by omega
    refine sX11_drives_35 ⟨fun _ => ?_, fun c => absurd (by omega) c⟩
    rw [hw (by omega), show b + 1 - 1 = b by omega]
    exact hQ
/-! drivers: the calls of both -/
def crD (m : jM) : jM := res [183, 184, 185] [(139, 56)] m
theorem crD_e (m : jM) : crD m 139 56 = m 139 56 ∧ crD m 183 = m 183 ∧ crD m 184 = m 184 ∧ crD m 185 = m 185 := ⟨res_at _ _ rfl, res_row _ rfl, res_row _ rfl, res_row _ rfl⟩
theorem crK_D {m : jM} : crK (crD m) ↔ crK m := by
  obtain ⟨e1, e2, e3, e4⟩ := crD_e m
  unfold crK
  rw [e1, e2, e3, e4]
theorem crC_D {m m' : jM} : crC (crD m) m' ↔ crC m m' := by
  obtain ⟨e1, e2, e3, e4⟩ := crD_e m
  unfold crC
  rw [e1, e2, e3, e4]
def crInv (m : jM) : Prop := crK (crD m) ∧ crC (crD m) m ∧ (m 127 6 = 0 ∨ crS (crD m) m (m 127 6))
abbrev crDp : List Int := [127, 128, 129, 130, 131, 132, 183, 184, 185]
abbrev crDf : List (Int × Int) := [(139, 56)]
theorem crD_cg {m m' : jM} (h1 : m' 139 56 = m 139 56) (h2 : m' 183 = m 183) (h3 : m' 184 = m 184) (h4 : m' 185 = m 185) : crD m' = crD m := res_cg ⟨by
  intro p hp
  simp only [List.mem_cons, List.not_mem_nil, or_false] at hp
  rcases hp with rfl | rfl | rfl
  · exact h2
  · exact h3
  · exact h4, by
  intro q hq
  simp only [List.mem_cons, List.not_mem_nil, or_false] at hq
  rw [hq]
  exact h1⟩
theorem crInv_cg {m m' : jM} (h : agr crDp crDf m m') (hx : crInv m) : crInv m' := by
  have e := crD_cg (agr_at h 139 56 (by decide)) (agr_row h 183 (by decide)) (agr_row h 184 (by decide)) (agr_row h 185 (by decide))
  unfold crInv at *
  rw [e]
  unfold crC crS at *
  rw [agr_row h 127 (by decide), agr_row h 128 (by decide), agr_row h 129 (by decide), agr_row h 130 (by decide), agr_row h 131 (by decide), agr_row h 132 (by decide)]
  exact hx
theorem crR_D (m : jM) {m' : jM} (h1 : m' 139 56 = m 139 56) (h2 : m' 183 = m 183) (h3 : m' 184 = m 184) (h4 : m' 185 = m 185) : crR (crD m) m' := by
  obtain ⟨e1, e2, e3, e4⟩ := crD_e m
  exact ⟨h1.trans e1.symm, h2.trans e2.symm, h3.trans e3.symm, h4.trans e4.symm⟩
/-- behind the class's solve and the reference's covers -/
theorem crInv_after {m m2 : jM} {k : Int} (h : crInv m) (hf : frx [127, 128, 132, 216] [] m m2) (ht : m2 127 0 = m 127 0) (h6 : m2 127 6 = k) (hs : crS (crD m) m2 k) : crInv m2 := by
  have e : crD m2 = crD m := crD_cg (hf _ _ (by decide) (by decide)) (frx_row hf _ (by decide) (by decide)) (frx_row hf _ (by decide) (by decide)) (frx_row hf _ (by decide) (by decide))
  refine ⟨by rw [e]; exact h.1, ?_, Or.inr (by rw [e, h6]; exact hs)⟩
  rw [e]
  have hc := h.2.1
  unfold crC at hc ⊢
  rw [ht, frx_row hf 129 (by decide) (by decide), frx_row hf 130 (by decide) (by decide), frx_row hf 131 (by decide) (by decide)]
  exact hc
theorem p_cover {m : jM} {k : Int} (h : crInv m) : ML iX10_cover [(2, 0), (0, k)] m (fun r m1 => ML iX11_cover [(2, 139), (0, k)] m1 (fun r' m2 => r = r' ∧ crInv m2 ∧ frx [127, 128, 132, 216] [] m m2)) := by
  by_cases hk : 1 ≤ k ∧ k ≤ 10
  · refine sX10_cover (sX10_isRouteCount ⟨fun c => absurd c (by omega), fun _ => ⟨fun c => absurd c (by omega), fun _ => ⟨fun _ => ?_, fun c => absurd (by decide) c⟩⟩⟩)
    refine c_solveC h.1 h.2.1 h.2.2 hk.1 hk.2 (fun m1 hf h6 hS => sX0_leastLeft ?_)
    refine sX11_cover (sX11_isIn ⟨fun c => absurd c (by omega), fun _ => ⟨fun c => absurd c (by omega), fun _ => ⟨fun _ => ?_, fun c => absurd (by decide) c⟩⟩⟩)
    refine c_covers h.1 (crR_D m (hf _ _ (by decide) (by decide)) (frx_row hf _ (by decide) (by decide)) (frx_row hf _ (by decide) (by decide)) (frx_row hf _ (by decide) (by decide))) hk.1 hk.2 (fun m2 hf2 hL => ?_)
    have hfx : frx [127, 128, 132, 216] [] m m2 := frx_tr (frx_mono hf (by decide) (by decide)) (frx_mono (frx_fr (K := []) hf2) (by decide) (by decide))
    have e := hL 0 0 (by decide) (by omega) (by decide) (by decide)
    refine ⟨by rw [hS.2.2.1]; exact e.symm, crInv_after (k := k) h hfx ?_ ?_ ?_, hfx⟩
    · rw [hf2 127 (by decide)]
      exact hf 127 0 (by decide) (by decide)
    · rw [hf2 127 (by decide)]
      exact h6
    · unfold crS at hS ⊢
      rw [hf2 132 (by decide), hf2 128 (by decide)]
      exact hS
  · have k2 : ML iX11_cover [(2, 139), (0, k)] m (fun r' m2 => -1 = r' ∧ crInv m2 ∧ frx [127, 128, 132, 216] [] m m2) :=
      sX11_cover (sX11_isIn ⟨fun c => ⟨fun z => absurd rfl z, fun _ => ⟨rfl, h, frx_rf⟩⟩, fun _ => ⟨fun c => ⟨fun z => absurd rfl z, fun _ => ⟨rfl, h, frx_rf⟩⟩, fun _ => absurd (by omega) hk⟩⟩)
    exact sX10_cover (sX10_isRouteCount ⟨fun c => ⟨fun z => absurd rfl z, fun _ => k2⟩, fun _ => ⟨fun c => ⟨fun z => absurd rfl z, fun _ => k2⟩, fun _ => absurd (by omega) hk⟩⟩)
theorem p_drives {m : jM} {k b : Int} (h : crInv m) : ML iX10_drives [(2, 0), (0, k), (0, b)] m (fun r m1 => ML iX11_drives [(2, 139), (0, k), (0, b)] m1 (fun r' m2 => r = r' ∧ crInv m2 ∧ frx [127, 128, 132, 216] [] m m2)) := by
  by_cases hk : 1 ≤ k ∧ k ≤ 10 ∧ 0 ≤ b ∧ b < k
  · obtain ⟨k0, k1, b0, b1⟩ := hk
    refine sX10_drives (sX10_isRouteCount ⟨fun c => absurd c (by omega), fun _ => ⟨fun c => absurd c (by omega), fun _ => ⟨fun c => absurd c (by decide), fun _ => sX10_within ⟨fun c => absurd c (by omega), fun _ => ⟨fun c => absurd c (by omega), fun _ => ⟨fun _ => ?_, fun c => absurd (by decide) c⟩⟩⟩⟩⟩⟩)
    refine c_solveC h.1 h.2.1 h.2.2 k0 k1 (fun m1 hf h6 hS => ?_)
    have ref : ∀ r, r = (if crWho (crD m) k b (crT (crD m) k b.toNat) = -1 then -2 else crWho (crD m) k b (crT (crD m) k b.toNat)) → ML iX11_drives [(2, 139), (0, k), (0, b)] m1 (fun r' m2 => r = r' ∧ crInv m2 ∧ frx [127, 128, 132, 216] [] m m2) := by
      intro r hr
      refine sX11_drives (sX11_isIn ⟨fun c => absurd c (by omega), fun _ => ⟨fun c => absurd c (by omega), fun _ => ⟨fun c => absurd c (by decide), fun _ => ⟨fun c => absurd c (by omega), fun _ => ⟨fun _ => ?_, fun c => absurd b1 c⟩⟩⟩⟩⟩)
      have hr1 := crR_D m (m' := m1) (hf _ _ (by decide) (by decide)) (frx_row hf _ (by decide) (by decide)) (frx_row hf _ (by decide) (by decide)) (frx_row hf _ (by decide) (by decide))
      refine c_covers h.1 hr1 k0 k1 (fun m2 hf2 hL => ?_)
      have hfx : frx [127, 128, 132, 216] [] m m2 := frx_tr (frx_mono hf (by decide) (by decide)) (frx_mono (frx_fr (K := []) hf2) (by decide) (by decide))
      refine c_drives h.1 ?_ k0 k1 b0 b1 hL ⟨hr, crInv_after (k := k) h hfx ?_ ?_ ?_, hfx⟩
      · unfold crR at hr1 ⊢
        rw [hf2 139 (by decide), hf2 183 (by decide), hf2 184 (by decide), hf2 185 (by decide)]
        exact hr1
      · rw [hf2 127 (by decide)]
        exact hf 127 0 (by decide) (by decide)
      · rw [hf2 127 (by decide)]
        exact h6
      · unfold crS at hS ⊢
        rw [hf2 132 (by decide), hf2 128 (by decide)]
        exact hS
    have e := hS.2.2.2 b b0 b1
    rw [e]
    exact ⟨b0, by omega, fun c => ⟨b0, by omega, ref _ (by rw [if_neg c])⟩, fun c => ref _ (by rw [if_pos (Classical.byContradiction c)])⟩
  · have k2 : ML iX11_drives [(2, 139), (0, k), (0, b)] m (fun r' m2 => -1 = r' ∧ crInv m2 ∧ frx [127, 128, 132, 216] [] m m2) :=
      sX11_drives (sX11_isIn ⟨fun c => ⟨fun _ => ⟨rfl, h, frx_rf⟩, fun z => absurd rfl z⟩, fun _ => ⟨fun c => ⟨fun _ => ⟨rfl, h, frx_rf⟩, fun z => absurd rfl z⟩, fun _ => ⟨fun c => absurd c (by decide), fun _ => ⟨fun _ => ⟨rfl, h, frx_rf⟩, fun _ => ⟨fun _ => absurd (by omega) hk, fun _ => ⟨rfl, h, frx_rf⟩⟩⟩⟩⟩⟩)
    exact sX10_drives (sX10_isRouteCount ⟨fun c => ⟨fun _ => k2, fun z => absurd rfl z⟩, fun _ => ⟨fun c => ⟨fun _ => k2, fun z => absurd rfl z⟩, fun _ => ⟨fun c => absurd c (by decide), fun _ => sX10_within ⟨fun c => ⟨fun z => absurd rfl z, fun _ => k2⟩, fun _ => ⟨fun c => ⟨fun z => absurd rfl z, fun _ => k2⟩, fun _ => absurd (by omega) hk⟩⟩⟩⟩⟩)
theorem crInv_mk {m : jM} (hk : crK m) (hc : crC m m) (h6 : m 127 6 = 0) : crInv m := ⟨crK_D.mpr hk, crC_D.mpr hc, Or.inl h6⟩
abbrev crUp : List Int := [127, 129, 130, 131, 183, 184, 185]
theorem p_driver {m : jM} {s : Int} (h : crInv m) : ML iX10_driver [(2, 0), (0, s)] m (fun r m1 => ML iX11_driver [(2, 139), (0, s)] m1 (fun r' m2 => r = r' ∧ crInv m2 ∧ frx crUp [(139, 56)] m m2)) := by
  have hk := crK_D.mp h.1
  have hc := crC_D.mp h.2.1
  have k0 := hk.1
  have k1 := hk.2.1
  have hno : ¬ (0 ≤ s ∧ s < 1024 ∧ m 139 56 < 8) → ML iX11_driver [(2, 139), (0, s)] m (fun r' m2 => -1 = r' ∧ crInv m2 ∧ frx crUp [(139, 56)] m m2) := by
    intro hn
    exact sX11_driver ⟨fun _ => ⟨rfl, h, frx_rf⟩, fun c1 => sX11_isIn ⟨fun c => ⟨fun z => absurd rfl z, fun _ => ⟨rfl, h, frx_rf⟩⟩, fun c2 => ⟨fun c => ⟨fun z => absurd rfl z, fun _ => ⟨rfl, h, frx_rf⟩⟩, fun c3 => absurd (by omega) hn⟩⟩⟩
  refine sX10_driver (sX10_within ⟨fun c => ⟨fun z => absurd rfl z, fun _ => hno (by omega)⟩, fun c1 => ⟨fun c => ⟨fun z => absurd rfl z, fun _ => hno (by omega)⟩, fun c2 => ⟨fun _ => sX0_add ?_, fun c => absurd (by decide) c⟩⟩⟩)
  rw [hc.1]
  refine ⟨fun c3 => ⟨k0, c3, ?_⟩, fun c => hno (by omega)⟩
  rw [jw_id (x := m 139 56 + 1) (by omega) (by omega), jw_id (by omega) (by omega)]
  generalize hm1 : jup (jup (jup m 129 (m 139 56) s) 127 0 (m 139 56 + 1)) 127 6 0 = m1
  have e56 : m1 139 56 = m 139 56 := by subst hm1; rfl
  refine sX11_driver ⟨fun c => absurd c (by rw [e56]; omega), fun _ => sX11_isIn ⟨fun c => absurd c (by omega), fun _ => ⟨fun c => absurd c (by omega), fun _ => ⟨fun _ => ?_, fun c => absurd (by decide) c⟩⟩⟩⟩
  rw [e56, jw_id (x := m 139 56 + 1) (by omega) (by omega), jw_id (by omega) (by omega)]
  refine ⟨k0, c3, k0, c3, rfl, ?_, ?_⟩
  · generalize hm2 : jup (jup (jup m1 183 (m 139 56) s) 184 (m 139 56) 0) 139 56 (m 139 56 + 1) = m2
    have g1 : m2 139 56 = m 139 56 + 1 := by subst hm2; rfl
    have g2 : ∀ i, m2 183 i = if i = m 139 56 then s else m 183 i := by intro i; subst hm2; subst hm1; simp [jup]
    have g3 : ∀ i, m2 184 i = if i = m 139 56 then 0 else m 184 i := by intro i; subst hm2; subst hm1; simp [jup]
    have g4 : m2 185 = m 185 := by subst hm2; subst hm1; funext i; simp [jup]
    have g5 : m2 127 0 = m 139 56 + 1 := by subst hm2; subst hm1; simp [jup]
    have g6 : m2 127 6 = 0 := by subst hm2; subst hm1; simp [jup]
    have g7 : ∀ i, m2 129 i = if i = m 139 56 then s else m 129 i := by intro i; subst hm2; subst hm1; simp [jup]
    have g8 : m2 130 = m 130 := by subst hm2; subst hm1; funext i; simp [jup]
    have g9 : m2 131 = m 131 := by subst hm2; subst hm1; funext i; simp [jup]
    refine crInv_mk ⟨by omega, by omega, fun x x0 x1 => ?_, by rw [g4]; exact hk.2.2.2⟩ ⟨by omega, fun x x0 x1 => ?_, fun x x0 x1 => ?_, by rw [g9, g4]; exact hc.2.2.2⟩ g6
    · rw [g2, g3]
      by_cases e : x = m 139 56
      · rw [if_pos e, if_pos e]; omega
      · rw [if_neg e, if_neg e]; exact hk.2.2.1 x x0 (by omega)
    · rw [g7, g8, g2, g3]
      by_cases e : x = m 139 56
      · rw [if_pos e, if_pos e, if_pos e]; exact ⟨rfl, hc.2.2.1 x (by omega) (by omega)⟩
      · rw [if_neg e, if_neg e, if_neg e]; exact hc.2.1 x x0 (by omega)
    · rw [g8]; exact hc.2.2.1 x (by omega) x1
  · rw [← hm1]
    exact frx_upF (frx_upA (frx_upA (frx_upA (frx_upA (frx_upA frx_rf (by decide)) (by decide)) (by decide)) (by decide)) (by decide)) (by decide)
theorem p_leave {m : jM} {x b : Int} (h : crInv m) (hb : b = 0 ∨ b = 1) : ML iX10_leave [(2, 0), (0, x), (0, b)] m (fun r m1 => ML iX11_leave [(2, 139), (0, x), (0, b)] m1 (fun r' m2 => r = r' ∧ crInv m2 ∧ frx crUp [(139, 56)] m m2)) := by
  have hk := crK_D.mp h.1
  have hc := crC_D.mp h.2.1
  have k0 := hk.1
  have k1 := hk.2.1
  have hno : ¬ (0 ≤ x ∧ x < m 139 56) → ML iX11_leave [(2, 139), (0, x), (0, b)] m (fun r' m2 => 0 = r' ∧ crInv m2 ∧ frx crUp [(139, 56)] m m2) := by
    intro hn
    exact sX11_leave ⟨fun _ => ⟨rfl, h, frx_rf⟩, fun c1 => ⟨fun c2 => absurd (by omega) hn, fun _ => ⟨rfl, h, frx_rf⟩⟩⟩
  refine sX10_leave ?_
  rw [hc.1]
  refine sX10_within ⟨fun c => ⟨fun z => absurd rfl z, fun _ => hno (by omega)⟩, fun c1 => ⟨fun c => ⟨fun z => absurd rfl z, fun _ => hno (by omega)⟩, fun c2 => ⟨fun _ => sX0_setAway ⟨by omega, by omega, hb, ?_⟩, fun c => absurd (by decide) c⟩⟩⟩
  refine sX11_leave ⟨fun c => absurd c (by omega), fun _ => ⟨fun _ => ⟨by omega, by omega, hb, rfl, ?_, ?_⟩, fun c => absurd (show x < m 139 56 by omega) c⟩⟩
  · generalize hm2 : jup (jup (jup m 130 x b) 127 6 0) 184 x b = m2
    have g1 : m2 139 56 = m 139 56 := by subst hm2; rfl
    have g2 : m2 183 = m 183 := by subst hm2; funext i; simp [jup]
    have g3 : ∀ i, m2 184 i = if i = x then b else m 184 i := by intro i; subst hm2; simp [jup]
    have g4 : m2 185 = m 185 := by subst hm2; funext i; simp [jup]
    have g5 : m2 127 0 = m 139 56 := by subst hm2; simp [jup]; exact hc.1
    have g6 : m2 127 6 = 0 := by subst hm2; simp [jup]
    have g7 : m2 129 = m 129 := by subst hm2; funext i; simp [jup]
    have g8 : ∀ i, m2 130 i = if i = x then b else m 130 i := by intro i; subst hm2; simp [jup]
    have g9 : m2 131 = m 131 := by subst hm2; funext i; simp [jup]
    refine crInv_mk ⟨by omega, by omega, fun y y0 y1 => ?_, by rw [g4]; exact hk.2.2.2⟩ ⟨by omega, fun y y0 y1 => ?_, fun y y0 y1 => ?_, by rw [g9, g4]; exact hc.2.2.2⟩ g6
    · have := hk.2.2.1 y y0 (by omega)
      rw [g2, g3]
      split <;> omega
    · have := hc.2.1 y y0 (by omega)
      rw [g7, g8, g2, g3]
      by_cases e : y = x
      · rw [if_pos e, if_pos e]; exact ⟨this.1, rfl⟩
      · rw [if_neg e, if_neg e]; exact this
    · rw [g8, if_neg (by omega)]
      exact hc.2.2.1 y (by omega) y1
  · exact frx_upA (frx_upA (frx_upA frx_rf (by decide)) (by decide)) (by decide)
theorem p_weigh {m : jM} {x b : Int} (h : crInv m) : ML iX10_weigh [(2, 0), (0, x), (0, b)] m (fun r m1 => ML iX11_weigh [(2, 139), (0, x), (0, b)] m1 (fun r' m2 => r = r' ∧ crInv m2 ∧ frx crUp [(139, 56)] m m2)) := by
  have hk := crK_D.mp h.1
  have hc := crC_D.mp h.2.1
  have hno : ¬ (0 ≤ x ∧ x < 10 ∧ 0 ≤ b ∧ b < 100) → ML iX11_weigh [(2, 139), (0, x), (0, b)] m (fun r' m2 => 0 = r' ∧ crInv m2 ∧ frx crUp [(139, 56)] m m2) := by
    intro hn
    exact sX11_weigh (sX11_isIn ⟨fun c => ⟨fun _ => ⟨rfl, h, frx_rf⟩, fun z => absurd rfl z⟩, fun c1 => ⟨fun c => ⟨fun _ => ⟨rfl, h, frx_rf⟩, fun z => absurd rfl z⟩, fun c2 => ⟨fun c => absurd c (by decide), fun _ => sX11_isIn ⟨fun c => ⟨fun z => absurd rfl z, fun _ => ⟨rfl, h, frx_rf⟩⟩, fun c3 => ⟨fun c => ⟨fun z => absurd rfl z, fun _ => ⟨rfl, h, frx_rf⟩⟩, fun c4 => absurd (by omega) hn⟩⟩⟩⟩⟩)
  refine sX10_weigh (sX10_within ⟨fun c => ⟨fun _ => hno (by omega), fun z => absurd rfl z⟩, fun c1 => ⟨fun c => ⟨fun _ => hno (by omega), fun z => absurd rfl z⟩, fun c2 => ⟨fun c => absurd c (by decide), fun _ => sX10_within ⟨fun c => ⟨fun z => absurd rfl z, fun _ => hno (by omega)⟩, fun c3 => ⟨fun c => ⟨fun z => absurd rfl z, fun _ => hno (by omega)⟩, fun c4 => ⟨fun _ => sX0_setWeight ⟨by omega, by omega, ?_⟩, fun c => absurd (by decide) c⟩⟩⟩⟩⟩⟩)
  refine sX11_weigh (sX11_isIn ⟨fun c => absurd c (by omega), fun _ => ⟨fun c => absurd c (by omega), fun _ => ⟨fun c => absurd c (by decide), fun _ => sX11_isIn ⟨fun c => absurd c (by omega), fun _ => ⟨fun c => absurd c (by omega), fun _ => ⟨fun _ => ⟨by omega, by omega, rfl, ?_, ?_⟩, fun c => absurd (by decide) c⟩⟩⟩⟩⟩⟩)
  · generalize hm2 : jup (jup (jup m 131 x b) 127 6 0) 185 x b = m2
    have g1 : m2 139 56 = m 139 56 := by subst hm2; rfl
    have g2 : m2 183 = m 183 := by subst hm2; funext i; simp [jup]
    have g3 : m2 184 = m 184 := by subst hm2; funext i; simp [jup]
    have g4 : ∀ i, m2 185 i = if i = x then b else m 185 i := by intro i; subst hm2; simp [jup]
    have g5 : m2 127 0 = m 127 0 := by subst hm2; simp [jup]
    have g6 : m2 127 6 = 0 := by subst hm2; simp [jup]
    have g7 : m2 129 = m 129 := by subst hm2; funext i; simp [jup]
    have g8 : m2 130 = m 130 := by subst hm2; funext i; simp [jup]
    have g9 : ∀ i, m2 131 i = if i = x then b else m 131 i := by intro i; subst hm2; simp [jup]
    have k1 := hk.1
    have k2 := hk.2.1
    have h1 := hc.1
    refine crInv_mk ⟨by omega, by omega, fun y y0 y1 => ?_, fun y y0 y1 => ?_⟩ ⟨by omega, fun y y0 y1 => ?_, fun y y0 y1 => ?_, fun y y0 y1 => ?_⟩ g6
    · rw [g2, g3]
      exact hk.2.2.1 y y0 (by omega)
    · have := hk.2.2.2 y y0 y1
      rw [g4]
      split <;> omega
    · rw [g7, g8, g2, g3]
      exact hc.2.1 y y0 (by omega)
    · rw [g8]
      exact hc.2.2.1 y (by omega) y1
    · have := hc.2.2.2 y y0 y1
      rw [g9, g4]
      split
      · rfl
      · exact this
  · exact frx_upA (frx_upA (frx_upA frx_rf (by decide)) (by decide)) (by decide)

/-! the reference's fleet -/
def aRr (L : List (Int × Int × Int)) (m : jM) : Prop := m 139 89 = (L.length : Int) ∧ ∀ i : Int, 0 ≤ i → i < (L.length : Int) → m 206 i = (L.getD i.toNat (0, 0, 0)).1 ∧ m 207 i = (L.getD i.toNat (0, 0, 0)).2.1 ∧ m 208 i = (L.getD i.toNat (0, 0, 0)).2.2
theorem aRr_snoc {L : List (Int × Int × Int)} {m m' : jM} {a b c : Int} (h : aRr L m) (h3 : m' 139 89 = (L.length : Int) + 1) (h8 : ∀ i, m' 206 i = if i = (L.length : Int) then a else m 206 i) (h9 : ∀ i, m' 207 i = if i = (L.length : Int) then b else m 207 i) (h0 : ∀ i, m' 208 i = if i = (L.length : Int) then c else m 208 i) : aRr (L ++ [(a, b, c)]) m' := by
  refine ⟨by rw [h3, List.length_append]; simp, fun i i0 i1 => ?_⟩
  rw [List.length_append] at i1
  simp only [List.length_singleton] at i1
  rw [h8, h9, h0]
  by_cases e : i = (L.length : Int)
  · rw [if_pos e, if_pos e, if_pos e, e, Int.toNat_natCast, getD_app_r]
    exact ⟨rfl, rfl, rfl⟩
  · rw [if_neg e, if_neg e, if_neg e, getD_app_l (by omega)]
    exact h.2 i i0 (by omega)
abbrev coFr : List Int := [195, 196, 201, 192, 193, 197, 198, 202, 199, 200, 203, 204, 205, 206, 207, 208]
abbrev coFf : List (Int × Int) := [(139, 75), (139, 86), (139, 88), (139, 89)]
theorem c_collectsG {V m : jM} {Q : Int → jM → Prop} {k : Int} (hf : vKf V) (hk : vKt V) (hd : vKd V) (hG : rG V k m) (hno : ∀ m', frx coFr coFf m m' → ¬ hasAll V → Q 0 m') (hQ : ∀ m', frx coFr coFf m m' → hasAll V → rG V k m' → aRr (flL V (V 0 2).toNat) m' → Q 1 m') : GL iX11_collects (jup m 139 89 0) 13 [(2, 139), (0, V 0 5), (0, V 0 6), (0, 0), (9, 0)] [] Q := by
  have hN := hk.1
  have gfr : ∀ m', frx coFr coFf m m' → rG V k m' := fun m' f => rG_fr hG (f 139 69 (by decide) (by decide)) (f 139 12 (by decide) (by decide)) (f 139 44 (by decide) (by decide)) (f 139 50 (by decide) (by decide)) (agr_of f (by decide))
  refine lup (n := V 0 2) (I := fun s m1 => 0 ≤ s ∧ s ≤ V 0 2 ∧ frx coFr coFf m m1 ∧ aRr (flL V s.toNat) m1 ∧ ∀ x, 0 ≤ x → x < s → 0 ≤ (tA V x (srv V x)).1.1) (G := fun s m1 => GL iX11_collects m1 13 [(2, 139), (0, V 0 5), (0, V 0 6), (0, s), (9, 0)] [] Q) ?_ ?_ 0 _ ⟨by decide, by omega, frx_upF frx_rf (by decide), ⟨jup_s, fun i i0 i1 => absurd i1 (by show ¬ i < ((0 : Nat) : Int); omega)⟩, fun x x0 x1 => by omega⟩
  · rintro s m1 hs ⟨s0, -, f1, a1, h1⟩ K
    have g1 := gfr m1 f1
    have k0 := g1.2.2.2.2.1.1
    have pm := plR_mem hf hk s
    have ln := (flL_mem hf hk s.toNat (by omega)).2
    refine sX11_collects_13 ?_
    rw [g1.1.1, k0.2.2.2.2.1]
    refine ⟨k0.1, k0.2.1, fun w => absurd w (by omega), fun _ => c_allRoutes hf hk hd g1 s0 hs (fun m2 f2 g2 S2 A2 => c_plans hf hk ⟨g2, S2, A2⟩ s0 hs (fun m3 f3 e1 e2 e3 e4 e5 => ?_))⟩
    have f13 : frx coFr coFf m m3 := frx_tr f1 (frx_tr (frx_mono f2 (by decide) (by decide)) (frx_mono f3 (by decide) (by decide)))
    by_cases hb : (tA V s (srv V s)).1.1 < 0
    · rw [if_pos hb]
      exact ⟨fun w => absurd rfl w, fun _ => hno m3 f13 (fun w => by have := w s s0 hs; omega)⟩
    · rw [if_neg hb]
      refine ⟨fun _ => ?_, fun w => absurd (by decide) w⟩
      have P3 : rPl V k s m3 := rPl_fr ⟨g2, S2, A2⟩ (agr_of f3 (by decide))
      have a3 : aRr (flL V s.toNat) m3 := by
        unfold aRr at a1 ⊢
        rw [f3 139 89 (by decide) (by decide), f2 139 89 (by decide) (by decide), frx_row f3 206 (by decide) (by decide), frx_row f3 207 (by decide) (by decide), frx_row f3 208 (by decide) (by decide), frx_row f2 206 (by decide) (by decide), frx_row f2 207 (by decide) (by decide), frx_row f2 208 (by decide) (by decide)]
        exact a1
      generalize hl : (plR V s).1 = l at *
      refine lup (n := (l.length : Int)) (I := fun j m4 => 0 ≤ j ∧ j ≤ (l.length : Int) ∧ frx [206, 207, 208] [(139, 89)] m3 m4 ∧ aRr (flL V s.toNat ++ (l.take j.toNat).map (fun y => (s, V 8 (stpI V s y 0), bh V s y (-1)))) m4) (G := fun j m4 => GL iX11_collects m4 45 [(2, 139), (0, V 0 5), (0, V 0 6), (0, s), (0, j)] [] Q) ?_ ?_ 0 m3 ⟨by decide, by omega, frx_rf, by simpa using a3⟩
      · rintro j m4 hj ⟨j0, -, f4, a4⟩ K2
        have P4 : rPl V k s m4 := rPl_fr P3 (agr_of f4 (by decide))
        have hjn : j.toNat < l.length := by omega
        have e86 : m4 139 86 = (l.length : Int) := by rw [f4 139 86 (by decide) (by decide)]; exact e2
        have eset : m4 205 j = l[j.toNat] := by
          rw [frx_row f4 205 (by decide) (by decide), e3 j j0 hj]
          have h2 := fnL_get hjn
          rw [Int.toNat_of_nonneg j0] at h2
          exact h2
        have mem := pm.1 _ (List.getElem_mem hjn)
        have st := stp0 hk mem.1 mem.2.1 mem.2.2.1 mem.2.2.2
        have etot := a4.1
        rw [List.length_append, List.length_map, List.length_take, Nat.min_eq_left (by omega)] at etot
        have etk : l.take (j + 1).toNat = l.take j.toNat ++ [l[j.toNat]] := by
          rw [show (j + 1).toNat = j.toNat + 1 by omega, List.take_succ_eq_append_getElem hjn]
        generalize l[j.toNat] = y at *
        have al := P4.2.2 y mem.1 (sub_le hk (by omega) mem.2.1 mem.2.2.1).2
        have rl := al.1.1 mem.2.2.1
        have erow : m4 198 (6 * y) = stpI V s y 0 := by
          have := rl.2 (by omega) 0 (by decide) st.2.2.2.2.2
          rw [Int.add_zero] at this
          rw [this]
          exact st.2.2.1.symm
        have esum : m4 197 y = bh V s y (-1) := by
          rw [rl.1]
          unfold dE
          rw [if_pos (by omega)]
        have g5 : rG V k (jup m4 206 (m4 139 89) s) := rG_fr P4.1 rfl rfl rfl rfl ⟨fun p hp => jup_ne (by simp only [List.mem_cons, List.not_mem_nil, or_false] at hp; omega), fun q hq => by cases hq⟩
        refine sX11_collects_45 ?_
        rw [e86, eset, jw_id (x := 6 * y) (by omega) (by omega), erow, jw_id (x := j + 1) (by omega) (by omega)]
        refine ⟨fun w => absurd w (by omega), fun _ => ⟨by omega, by omega, j0, by omega, by omega, by omega, c_placeOfStop g5 st.1 (by omega) ?_⟩⟩
        rw [jup_ne (show (205 : Int) ≠ 206 by decide), eset, jup_ne (show (139 : Int) ≠ 206 by decide), jup_ne (show (197 : Int) ≠ 206 by decide), esum, etot, jw_id (x := (((flL V s.toNat).length + j.toNat : Nat) : Int) + 1) (by omega) (by omega)]
        have elen : (((flL V s.toNat ++ (l.take j.toNat).map (fun y => (s, V 8 (stpI V s y 0), bh V s y (-1)))).length : Nat) : Int) = (((flL V s.toNat).length + j.toNat : Nat) : Int) := by
          rw [List.length_append, List.length_map, List.length_take, Nat.min_eq_left (by omega)]
        refine ⟨by omega, by omega, j0, by omega, by omega, by omega, by omega, by omega, K2 _ ⟨by omega, by omega, frx_upF (frx_upA (frx_upA (frx_upA f4 (by decide)) (by decide)) (by decide)) (by decide), ?_⟩⟩
        rw [etk, List.map_append, ← List.append_assoc]
        refine aRr_snoc a4 (by rw [jup_s, elen]) (fun i => ?_) (fun i => ?_) (fun i => ?_)
        · rw [elen, jup_ne (by decide), jup_ne (by decide), jup_ne (by decide), jup_self]
        · rw [elen, jup_ne (by decide), jup_ne (by decide), jup_self, jup_ne (by decide)]
        · rw [elen, jup_ne (by decide), jup_self, jup_ne (by decide), jup_ne (by decide)]
      · rintro j m4 hj ⟨j0, j1, f4, a4⟩
        obtain rfl : j = (l.length : Int) := by omega
        have e86 : m4 139 86 = (l.length : Int) := by rw [f4 139 86 (by decide) (by decide)]; exact e2
        rw [Int.toNat_natCast, List.take_length] at a4
        refine sX11_collects_45 ?_
        rw [e86, jw_id (x := s + 1) (by omega) (by omega)]
        refine ⟨fun _ => K m4 ⟨by omega, by omega, frx_tr f13 (frx_mono f4 (by decide) (by decide)), ?_, fun x x0 x1 => ?_⟩, fun w => absurd (Int.le_refl _) w⟩
        · rw [show (s + 1).toNat = s.toNat + 1 by omega]
          simp only [flL]
          rw [Int.toNat_of_nonneg s0, hl]
          exact a4
        · by_cases e : x = s
          · rw [e]; omega
          · exact h1 x x0 (by omega)
  · rintro s m1 hs ⟨s0, s1, f1, a1, h1⟩
    obtain rfl : s = V 0 2 := by omega
    have g1 := gfr m1 f1
    have k0 := g1.2.2.2.2.1.1
    refine sX11_collects_13 ?_
    rw [g1.1.1, k0.2.2.2.2.1]
    exact ⟨k0.1, k0.2.1, fun _ => hQ m1 f1 (fun x x0 x1 => h1 x x0 x1) g1 a1, fun w => absurd (Int.le_refl _) w⟩
theorem c_bellOf {V m : jM} {Q : Int → jM → Prop} {k s : Int} {P : Int → Int} (hk : vKt V) (hG : rG V k m) (s0 : 0 ≤ s) (s1 : s < V 0 2) (hP : ∀ s, 0 ≤ s → s < 3 → m 209 s = P s ∧ -20 ≤ P s ∧ P s ≤ 20) (hQ : Q (V 7 s + P s) m) : ML iX11_bellOf [(2, 139), (0, s)] m Q := by
  have hN := hk.1
  have rt := hG.2.2.2.2.1
  have r0 := rt.1
  have b := (hk.2.2.1 s s0 s1).2.2
  have p := hP s s0 (by omega)
  refine sX11_bellOf ?_
  rw [hG.1.1, jw_id (x := 3 * k) (by omega) (by omega), jw_id (x := 3 * k + s) (by omega) (by omega), (rt.2.2.1 s s0 (by omega)).2, p.1, jw_id (x := V 7 s + P s) (by omega) (by omega)]
  exact ⟨by omega, by omega, s0, by omega, hQ⟩
theorem c_isBehind {V m : jM} {k : Int} {P : Int → Int} (hf : vKf V) (hk : vKt V) (hG : rG V k m) (hA : aRr (flL V (V 0 2).toNat) m) (hP : ∀ s, 0 ≤ s → s < 3 → m 209 s = P s ∧ -20 ≤ P s ∧ P s ≤ 20) : isB (fR V P) (flT V) m := by
  intro m1 x y Q f1 x0 x1 y0 y1 hy hn
  have hN := hk.1
  have t := flT_in hf hk
  have G1 : rG V k m1 := rG_fr hG (by rw [f1 139 (by decide) (by decide) (by decide) (by decide)]) (by rw [f1 139 (by decide) (by decide) (by decide) (by decide)]) (by rw [f1 139 (by decide) (by decide) (by decide) (by decide)]) (by rw [f1 139 (by decide) (by decide) (by decide) (by decide)]) ⟨fun p hp => f1 p (by rintro rfl; revert hp; decide) (by rintro rfl; revert hp; decide) (by rintro rfl; revert hp; decide) (by rintro rfl; revert hp; decide), fun q hq => by cases hq⟩
  have P1 : ∀ s, 0 ≤ s → s < 3 → m1 209 s = P s ∧ -20 ≤ P s ∧ P s ≤ 20 := by rw [f1 209 (by decide) (by decide) (by decide) (by decide)]; exact hP
  have gx := flG_in hf hk x0 x1
  have gy := flG_in hf hk y0 y1
  have ax : m1 206 x = fS V x ∧ m1 206 y = fS V y ∧ m1 207 y = fP V y ∧ m1 208 y = fB V y := by
    rw [f1 206 (by decide) (by decide) (by decide) (by decide), f1 207 (by decide) (by decide) (by decide) (by decide), f1 208 (by decide) (by decide) (by decide) (by decide)]
    have q1 := hA.2 x x0 x1
    have q2 := hA.2 y y0 y1
    exact ⟨q1.1, q2.1, q2.2.1, q2.2.2⟩
  have ps := hk.2.2.1 _ gx.1 gx.2.1
  have pt := hk.2.2.1 _ gy.1 gy.2.1
  have px := hP _ gx.1 (by omega)
  have py_ := hP _ gy.1 (by omega)
  have d1 := vD_ge hk 2 (V 6 (fS V x)) (fP V y)
  have d2 := (vD_le hk 2 (V 6 (fS V x)) (fP V y)).2 rfl
  refine sX11_isBehind ?_
  rw [ax.1]
  refine ⟨x0, by omega, c_placeOfSchool G1 gx.1 (by omega) ⟨y0, by omega, ?_⟩⟩
  rw [ax.2.2.1]
  refine c_leastV G1 (by decide) (by decide) ps.1 (by omega) gy.2.2.1 (by omega) ⟨fun e => hn (fun w => w.1 e), fun e => ⟨fun z => hn (fun w => w.2.1 (by omega)), fun z => ⟨x0, by omega, ?_⟩⟩⟩
  rw [ax.1]
  refine c_bellOf hk G1 gx.1 gx.2.1 P1 ⟨y0, by omega, ?_⟩
  rw [ax.2.1]
  refine c_bellOf hk G1 gy.1 gy.2.1 P1 ⟨y0, by omega, ?_⟩
  rw [ax.2.2.2, jw_id (x := V 7 (fS V x) + P (fS V x) + vD V 2 (V 6 (fS V x)) (fP V y)) (by omega) (by omega), jw_id (x := V 7 (fS V y) + P (fS V y) - fB V y) (by omega) (by omega)]
  refine ⟨fun z2 => ⟨x0, by omega, ?_⟩, fun z2 => hn (fun w => z2 w.2.2.1)⟩
  rw [ax.1]
  refine c_bellOf hk G1 gx.1 gx.2.1 P1 ⟨y0, by omega, ?_⟩
  rw [ax.2.1]
  refine c_bellOf hk G1 gy.1 gy.2.1 P1 ⟨fun z3 => hy ⟨e, by omega, z2, Or.inl z3⟩, fun z3 => ⟨fun z4 => hn (fun w => ?_), fun z4 => hy ⟨e, by omega, z2, Or.inr (by omega)⟩⟩⟩
  rcases w.2.2.2 with u | u
  · exact z3 u
  · omega
theorem c_busesOf {V m : jM} {Q : Int → jM → Prop} {k : Int} {P : Int → Int} (hf : vKf V) (hk : vKt V) (hG : rG V k m) (hA : aRr (flL V (V 0 2).toNat) m) (hP : ∀ s, 0 ≤ s → s < 3 → m 209 s = P s ∧ -20 ≤ P s ∧ P s ≤ 20) (hQ : ∀ m', (∀ q, q ≠ 210 → q ≠ 211 → q ≠ 212 → q ≠ 213 → m' q = m q) → Q (nb V P) m') : ML iX11_busesOf [(2, 139)] m Q := by
  have t := flT_in hf hk
  have eT : m 139 89 = flT V := hA.1
  have eN : (((flT V).toNat : Nat) : Int) = flT V := by omega
  refine sX11_busesOf ?_
  rw [eT]
  refine lup (n := flT V) (I := fun y m1 => 0 ≤ y ∧ y ≤ flT V ∧ (∀ q, q ≠ 210 → m1 q = m q) ∧ ∀ z, 0 ≤ z → z < y → m1 210 z = -1) (G := fun y m1 => GL iX11_busesOf m1 7 [(2, 139), (0, flT V), (0, y)] [] Q) ?_ ?_ 0 m ⟨by decide, t.1, fun q _ => rfl, fun z z0 z1 => by omega⟩
  · rintro y m1 hy ⟨y0, -, f1, h1⟩ K
    refine sX11_busesOf_7 ?_
    rw [f1 139 (by decide), eT, jw_id (x := y + 1) (by omega) (by omega)]
    refine ⟨fun w => absurd w (by omega), fun _ => ⟨y0, by omega, K _ ⟨by omega, by omega, fun q hq => by rw [jup_ne hq]; exact f1 q hq, fun z z0 z1 => ?_⟩⟩⟩
    rw [jup_self]
    split
    · rfl
    · exact h1 z z0 (by omega)
  · rintro y m1 hy ⟨y0, y1, f1, h1⟩
    obtain rfl : y = flT V := by omega
    refine sX11_busesOf_7 ?_
    rw [f1 139 (by decide), eT]
    refine ⟨fun _ => ?_, fun w => absurd (Int.le_refl _) w⟩
    refine lup2 (n := flT V) (I := fun x m2 c => 0 ≤ x ∧ x ≤ flT V ∧ (∀ q, q ≠ 210 → q ≠ 211 → q ≠ 212 → q ≠ 213 → m2 q = m q) ∧ c = flT V - grC (flT V) (fR V P) x.toNat ∧ ∃ M, mtch (flT V) (fR V P) M ∧ (∀ y, 0 ≤ y → y < flT V → m2 210 y = M y) ∧ ∀ z, 0 ≤ z → z < flT V → (grX (flT V) (fR V P) x.toNat z ↔ cvr (flT V) M z)) (G := fun x m2 c => GL iX11_busesOf m2 30 [(2, 139), (0, c), (0, x)] [] Q) ?_ ?_ 0 m1 (flT V) ⟨by decide, t.1, fun q a b c d => f1 q a, by show flT V = flT V - 0; omega, fun _ => -1, ⟨fun y _ _ => Or.inl rfl, fun y y' _ _ _ _ h => absurd rfl h⟩, fun y y0 y1 => h1 y y0 y1, fun z z0 z1 => ⟨fun h => h.elim, fun ⟨y, _, _, e⟩ => by have e : (-1 : Int) = z := e; omega⟩⟩
    · rintro x m2 c hx ⟨x0, -, f2, hc, M, hM, hfM, hcv⟩ K
      have b := grC_in (T := flT V) (R := fR V P) x.toNat
      have G2 : rG V k m2 := rG_fr hG (by rw [f2 139 (by decide) (by decide) (by decide) (by decide)]) (by rw [f2 139 (by decide) (by decide) (by decide) (by decide)]) (by rw [f2 139 (by decide) (by decide) (by decide) (by decide)]) (by rw [f2 139 (by decide) (by decide) (by decide) (by decide)]) ⟨fun p hp => f2 p (by rintro rfl; revert hp; decide) (by rintro rfl; revert hp; decide) (by rintro rfl; revert hp; decide) (by rintro rfl; revert hp; decide), fun q hq => by cases hq⟩
      have A2 : aRr (flL V (V 0 2).toNat) m2 := by
        unfold aRr at hA ⊢
        rw [f2 139 (by decide) (by decide) (by decide) (by decide), f2 206 (by decide) (by decide) (by decide) (by decide), f2 207 (by decide) (by decide) (by decide) (by decide), f2 208 (by decide) (by decide) (by decide) (by decide)]; exact hA
      have P2 : ∀ s, 0 ≤ s → s < 3 → m2 209 s = P s ∧ -20 ≤ P s ∧ P s ≤ 20 := by rw [f2 209 (by decide) (by decide) (by decide) (by decide)]; exact hP
      have nC : grC (flT V) (fR V P) (x + 1).toNat = grC (flT V) (fR V P) x.toNat + @ite _ (cov (flT V) (fR V P) (fun z => grX (flT V) (fR V P) x.toNat z ∨ z = x)) (Classical.propDecidable _) 1 0 := by
        rw [show (x + 1).toNat = x.toNat + 1 by omega]
        simp only [grC]
        rw [Int.toNat_of_nonneg x0]
      have nX : ∀ z, grX (flT V) (fR V P) (x + 1).toNat z ↔ grX (flT V) (fR V P) x.toNat z ∨ (z = x ∧ cov (flT V) (fR V P) (fun z => grX (flT V) (fR V P) x.toNat z ∨ z = x)) := by
        intro z
        rw [show (x + 1).toNat = x.toNat + 1 by omega]
        simp only [grX]
        rw [Int.toNat_of_nonneg x0]
      refine sX11_busesOf_30 ?_
      rw [f2 139 (by decide) (by decide) (by decide) (by decide), eT, jw_id (x := x + 1) (by omega) (by omega), jw_id (x := c - 0) (by omega) (by omega), jw_id (x := c - 1) (by omega) (by omega), Int.sub_zero]
      refine ⟨fun w => absurd w (by omega), fun _ => c_finds t.1 t.2 (by rw [f2 139 (by decide) (by decide) (by decide) (by decide)]; exact eT) (c_isBehind hf hk G2 A2 P2) hM hfM (fun z hz => by have := grX_lt _ z hz; omega) hcv x0 hx (fun h => by have := grX_lt _ x h; omega) (fun m3 f3 h3 hn => ⟨fun _ => K m3 c ⟨by omega, by omega, fun q a b c d => by rw [f3 q a b c d]; exact f2 q a b c d, ?_, M, hM, h3, fun z z0 z1 => ?_⟩, fun w => absurd rfl w⟩) (fun m3 M3 f3 hM3 h3 cv3 hy => ⟨fun w => absurd w (by decide), fun _ => K m3 _ ⟨by omega, by omega, fun q a b c d => by rw [f3 q a b c d]; exact f2 q a b c d, ?_, M3, hM3, h3, fun z z0 z1 => ?_⟩⟩)⟩
      · rw [nC, if_neg hn]; omega
      · rw [nX, ← hcv z z0 z1]
        exact ⟨fun w => w.elim id (fun w => absurd w.2 hn), Or.inl⟩
      · rw [nC, if_pos hy]; omega
      · rw [nX, ← cv3 z z0 z1]
        exact ⟨fun w => w.elim Or.inl (fun w => Or.inr w.1), fun w => w.elim Or.inl (fun w => Or.inr ⟨w, hy⟩)⟩
    · rintro x m2 c hx ⟨x0, x1, f2, hc, M, hM, hfM, hcv⟩
      obtain rfl : x = flT V := by omega
      refine sX11_busesOf_30 ?_
      rw [f2 139 (by decide) (by decide) (by decide) (by decide), eT]
      refine ⟨fun _ => ?_, fun w => absurd (Int.le_refl _) w⟩
      have := hQ m2 f2
      unfold nb nbR at this
      rw [eN] at this
      rw [hc]
      exact this

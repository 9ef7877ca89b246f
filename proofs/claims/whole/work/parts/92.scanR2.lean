/-- the reference has written one token, T -/
def rkU (T : Int) (m m' : jM) : Prop := frx [141, 142, 143, 144] [(139, 2)] m m' ∧ ∀ j, j ≠ T → m' 141 j = m 141 j ∧ m' 142 j = m 142 j ∧ m' 143 j = m 143 j ∧ m' 144 j = m 144 j
theorem rkU_rf {T : Int} {m : jM} : rkU T m m := ⟨frx_rf, fun _ _ => ⟨rfl, rfl, rfl, rfl⟩⟩
theorem c_token {m m0 : jM} {Q : Int → jM → Prop} {T a b c : Int} (hu : rkU T m0 m) (hT : m 139 2 = T) (t0 : 0 ≤ T) (t1 : T ≤ 2000) (hQ : ∀ m', rkU T m0 m' → m' 139 2 = T + 1 → m' 141 T = a → m' 142 T = b → m' 143 T = c → m' 144 = m 144 → Q 0 m') : ML iX11_token [(2, 139), (0, a), (0, b), (0, c)] m Q := by
  refine sX11_token ?_
  rw [hT, jw_id (x := T + 1) (by omega) (by omega)]
  refine ⟨t0, by omega, t0, by omega, t0, by omega, hQ _ ⟨frx_upF (frx_upA (frx_upA (frx_upA hu.1 (by decide)) (by decide)) (by decide)) (by decide), fun j hj => ?_⟩ (by rw [jup_s]) (by simp [jup]) (by simp [jup]) (by simp [jup]) rfl⟩
  have h := hu.2 j hj
  simp [jup, hj, h]
theorem rbI_fr {B : Int → Int} {m m' : jM} {T : Int} (h : rbI B m) (hu : rkU T m m') : rbI B m' := by
  unfold rbI at *
  rw [hu.1 139 0 (by decide) (by decide), frx_row hu.1 140 (by decide) (by decide)]
  exact h
theorem vB8R {l : List Int} (h : ∀ c ∈ l, 1 ≤ c ∧ c ≤ 26) (hn : l.length ≤ 8) : 0 ≤ vB 27 l ∧ vB 27 l < 1099511627776 := by
  have h1 := vB_lt (b := 27) (by decide) h
  have h2 : (27 : Int) ^ l.length ≤ 27 ^ 8 := by
    have : (27 : Nat) ^ l.length ≤ 27 ^ 8 := Nat.pow_le_pow_right (by decide) hn
    exact_mod_cast this
  have h3 : (27 : Int) ^ 8 = 282429536481 := by decide
  exact ⟨(vB_pos (by decide) h).1, by omega⟩
theorem wno_in {k : Int} (k0 : 0 ≤ k) (k1 : k < 22) : 0 ≤ wno k := by
  have : ∀ i : Fin 22, 0 ≤ wno ((i : Nat) : Int) := by decide +kernel
  have h := this ⟨k.toNat, by omega⟩
  simp only [Int.toNat_of_nonneg k0] at h
  exact h
theorem kdW_ex (l : List Int) : ∃ k, kdW l k := by
  by_cases h : ∃ i, 0 ≤ i ∧ i < 22 ∧ wd i = l
  · obtain ⟨i, i0, i1, e⟩ := h
    exact ⟨i, Or.inl ⟨i0, i1, e⟩⟩
  · exact ⟨22, Or.inr ⟨rfl, fun i i0 i1 e => h ⟨i, i0, i1, e⟩⟩⟩
theorem kdW_1 {l : List Int} {k k' : Int} (h : kdW l k) (h' : kdW l k') : k = k' := by
  rcases h with ⟨a, b, e⟩ | ⟨a, e⟩ <;> rcases h' with ⟨a', b', e'⟩ | ⟨a', e'⟩
  · have := wd_nd ⟨k.toNat, by omega⟩ ⟨k'.toNat, by omega⟩ (by simp only [Int.toNat_of_nonneg a, Int.toNat_of_nonneg a']; rw [e, e'])
    have := congrArg Fin.val this
    simp only at this
    omega
  · exact absurd e (e' k a b)
  · exact absurd e' (e k' a' b')
  · omega
theorem c_scanR {B : Int → Int} {m : jM} {Q : Int → jM → Prop} {p T : Int} (hb : rbI B m) (p0 : 0 ≤ p) (p1 : p < m 139 0) (hT : m 139 2 = T) (t0 : 0 ≤ T) (t1 : T ≤ 2000) (hQ : ∀ e m', rkU T m m' → m' 139 2 = T + 1 → p < e → e ≤ m 139 0 → (∀ kd vl e', tkC B p kd vl e' → e' = e ∧ tkX kd vl p (m' 141 T) (m' 142 T) (m' 143 T) (m' 144 T)) → Q e m') : ML iX11_scan [(2, 139), (0, p)] m Q := by
  have t := hb.1
  have Bp := hb.2.1 p p0 p1
  have out : ∀ q, m 139 0 ≤ q → ¬ isLe (B q) ∧ ¬ isDi (B q) := fun q hq => by rw [hb.2.2 q hq]; exact ⟨nLe, nDi⟩
  refine sX11_scan (c_letterR hb p0 (fun r r1 r0 => ⟨fun z => c_digitR hb p0 (fun s s1 s0 => ⟨fun z2 => ?_, fun z2 => ?_⟩), fun z => ?_⟩))
  · -- a sign
    have nl : ¬ isLe (B p) := fun w => by have := r1 w; omega
    have nd : ¬ isDi (B p) := fun w => by have := s1 w; omega
    have rel := sg_rel (B p) (B (p + 1))
    have kin := ksg_in (B p) (B (p + 1))
    refine c_signAt hb p0 p1 ?_
    generalize hs : sgR (B p) (B (p + 1)) = S at *
    generalize hk : ksg (B p) (B (p + 1)) = kk at *
    rw [jw_id (x := p + 1) (by omega) (by omega), jw_id (x := p + 2) (by omega) (by omega)]
    have two : 300 ≤ S → p + 2 ≤ m 139 0 := by
      intro h3
      apply Classical.byContradiction
      intro w
      have := hb.2.2 (p + 1) (by omega)
      have kk3 := rel.2.2.mpr h3
      rw [← hk, this] at kk3
      unfold ksg at kk3
      have hh : ¬ ((-1 : Int) = 61) := by decide
      simp only [if_neg hh] at kk3
      revert kk3
      (repeat' split) <;> omega
    have fin : ∀ so e m', rkU T m m' → m' 139 2 = T + 1 → m' 141 T = so → m' 142 T = p → m' 143 T = S → (S = 0 → so = 5) → (S ≠ 0 → so = 2) → (S < 300 → e = p + 1) → (300 ≤ S → e = p + 2) → Q e m' := by
      intro so e m' u' g2 g1 g3 g4 g5 g6 g7 g8
      have eb : p < e ∧ e ≤ m 139 0 := by
        by_cases h3 : 300 ≤ S
        · have := two h3; have := g8 h3; omega
        · have := g7 (by omega); omega
      refine hQ e m' u' g2 eb.1 eb.2 (fun kd vl e' hk' => ?_)
      rcases hk' with ⟨h1, h2, h3⟩ | ⟨h1, h2, h3⟩ | ⟨h1, h2, h3⟩ | ⟨h1, h2, h3, h4, h5⟩
      · omega
      · exact absurd h1 nl
      · exact absurd h1 nd
      · rw [hk] at h4
        refine ⟨?_, g3, fun a b => by omega, fun a => by omega, fun a => by omega, fun a b => ?_, fun a => by omega, ?_, fun a b => by omega⟩
        · split at h5
          · have := g8 (rel.2.2.mp (by omega)); omega
          · have : ¬ 300 ≤ S := fun w => by have := rel.2.2.mpr w; omega
            have := g7 (by omega); omega
        · have r2 := rel.2.1 (by omega)
          rw [g1, g4, g6 r2.2]
          exact ⟨rfl, by rw [h4]; exact r2.1⟩
        · rw [g1]
          constructor
          · intro a; exact g5 (rel.1 (by omega))
          · intro a
            apply Classical.byContradiction
            intro w
            have r2 := rel.2.1 (by omega)
            have := g6 r2.2
            omega
    refine ⟨fun z3 => ?_, fun z3 => ?_⟩
    · refine c_token rkU_rf hT t0 t1 (fun m' u' g2 g1 g3 g4 _ => ⟨fun z4 => fin 2 _ m' u' g2 g1 g3 g4 (fun w => absurd w z3) (fun _ => rfl) (fun _ => rfl) (fun w => by omega), fun z4 => fin 2 _ m' u' g2 g1 g3 g4 (fun w => absurd w z3) (fun _ => rfl) (fun w => absurd w z4) (fun _ => rfl)⟩)
    · refine c_token rkU_rf hT t0 t1 (fun m' u' g2 g1 g3 g4 _ => ⟨fun z4 => fin 5 _ m' u' g2 g1 g3 g4 (fun _ => rfl) (fun w => absurd w z3) (fun _ => rfl) (fun w => by omega), fun z4 => fin 5 _ m' u' g2 g1 g3 g4 (fun _ => rfl) (fun w => absurd w z3) (fun w => absurd w z4) (fun _ => rfl)⟩)
  · -- an INT
    have dp : isDi (B p) := Classical.byContradiction (fun w => z2 (s0 w))
    have nl : ¬ isLe (B p) := fun w => by have := r1 w; omega
    have body : ∀ e v, p ≤ e → e ≤ m 139 0 → (∀ q, p ≤ q → q < e → isDi (B q)) → (e - p ≤ 4 → v = dgR B p (e - p).toNat) → (e < m 139 0 → ∀ v', (∀ q, p ≤ q → q < e + 1 → isDi (B q)) → (e + 1 - p ≤ 4 → v' = dgR B p (e + 1 - p).toNat) → GL iX11_scan m 120 [(2, 139), (0, p), (0, e + 1), (0, v'), (9, 0), (9, 0)] [] Q) → GL iX11_scan m 120 [(2, 139), (0, p), (0, e), (0, v), (9, 0), (9, 0)] [] Q := by
      intro e v e0 eL h1 hv K
      refine sX11_scan_120 (c_digitR hb (by omega) (fun r r1' r0' => ⟨fun z3 => ?_, fun z3 => ?_⟩))
      · have ne : ¬ isDi (B e) := fun w => by have := r1' w; omega
        have hr : isRun B isDi p e := ⟨e0, h1, ne⟩
        have pe : p < e := by
          have : p ≠ e := fun w => ne (w ▸ dp)
          omega
        rw [jw_id (x := e - p) (by omega) (by omega)]
        have cls : ∀ so m', rkU T m m' → m' 139 2 = T + 1 → m' 141 T = so → m' 142 T = p → m' 143 T = v → (e - p ≤ 4 → so = 1) → (4 < e - p → so = 5) → Q e m' := by
          intro so m' u' g2 g1 g3 g4 g5 g6
          refine hQ e m' u' g2 pe eL (fun kd vl e' hk' => ?_)
          rcases hk' with ⟨h1, h2, h3⟩ | ⟨h1, h2, h3⟩ | ⟨h1', h2, h3⟩ | ⟨h1, h2, h3, h4, h5⟩
          · omega
          · exact absurd h1 nl
          · have ee := isRun_1 h2 hr
            subst ee
            refine ⟨rfl, ?_⟩
            rcases h3 with ⟨h3, h4⟩ | ⟨h3, h4, h5⟩
            · have := g6 h3
              exact ⟨g3, fun a b => by omega, fun a => by omega, fun a => by omega, fun a b => by omega, fun a => by omega, ⟨fun _ => by omega, fun _ => h4⟩, fun a b => by omega⟩
            · have := g5 h3
              have dg := dgR_in (B := B) (p := p) (n := (e' - p).toNat) (fun q a b => h2.2.1 q a (by omega))
              have d4 : (10 : Int) ^ (e' - p).toNat ≤ 10 ^ 4 := by
                have : (10 : Nat) ^ (e' - p).toNat ≤ 10 ^ 4 := Nat.pow_le_pow_right (by decide) (by omega)
                exact_mod_cast this
              have d5 : (10 : Int) ^ 4 = 10000 := by decide
              have hv' := hv h3
              exact ⟨g3, fun a b => by omega, fun a => by omega, fun a => ⟨by omega, by omega, by omega, by omega⟩, fun a b => by omega, fun a => by omega, ⟨fun a => by omega, fun a => by omega⟩, fun a b => by omega⟩
          · exact absurd dp h3
        exact ⟨fun z4 => c_token rkU_rf hT t0 t1 (fun m' u' g2 g1 g3 g4 _ => cls 1 m' u' g2 g1 g3 g4 (fun _ => rfl) (fun w => by omega)), fun z4 => c_token rkU_rf hT t0 t1 (fun m' u' g2 g1 g3 g4 _ => cls 5 m' u' g2 g1 g3 g4 (fun w => absurd w z4) (fun _ => rfl))⟩
      · have de : isDi (B e) := Classical.byContradiction (fun w => z3 (r0' w))
        have eL : e < m 139 0 := Classical.byContradiction (fun w => (out e (by omega)).2 de)
        have h1' : ∀ q, p ≤ q → q < e + 1 → isDi (B q) := fun q a b => by
          by_cases c : q = e
          · rw [c]; exact de
          · exact h1 q a (by omega)
        rw [jw_id (x := e - p) (by omega) (by omega), jw_id (x := e + 1) (by omega) (by omega)]
        refine ⟨fun z4 => K eL v h1' (fun w => by omega), fun z4 => c_byteR hb (by omega) (fun r5 _ r51 => K eL _ h1' (fun w => ?_))⟩
        rw [r51 eL, hv (by omega)]
        have dg := dgR_in (B := B) (p := p) (n := (e - p).toNat) (fun q a b => h1 q a (by omega))
        have d4 : (10 : Int) ^ (e - p).toNat ≤ 10 ^ 4 := by
          have : (10 : Nat) ^ (e - p).toNat ≤ 10 ^ 4 := Nat.pow_le_pow_right (by decide) (by omega)
          exact_mod_cast this
        have d5 : (10 : Int) ^ 4 = 10000 := by decide
        unfold isDi at de
        rw [show (e + 1 - p).toNat = (e - p).toNat + 1 by omega]
        simp only [dgR]
        rw [show p + (((e - p).toNat : Nat) : Int) = e by omega]
        generalize dgR B p (e - p).toNat = y at *
        rw [jw_id (x := 10 * y) (by omega) (by omega), jw_id (x := 10 * y + B e) (by omega) (by omega), jw_id (by omega) (by omega)]
        omega
    refine lup (n := m 139 0) (I := fun e (v : Int) => p ≤ e ∧ e ≤ m 139 0 ∧ (∀ q, p ≤ q → q < e → isDi (B q)) ∧ (e - p ≤ 4 → v = dgR B p (e - p).toNat)) (G := fun e v => GL iX11_scan m 120 [(2, 139), (0, p), (0, e), (0, v), (9, 0), (9, 0)] [] Q) ?_ ?_ p 0 ⟨Int.le_refl _, by omega, fun q q0 q1 => by omega, fun _ => by rw [Int.sub_self]; rfl⟩
    · rintro e v he ⟨e0, e1, h1, hv⟩ K
      exact body e v e0 e1 h1 hv (fun _ v' a b => K v' ⟨by omega, by omega, a, b⟩)
    · rintro e v he ⟨e0, e1, h1, hv⟩
      exact body e v e0 e1 h1 hv (fun w => absurd he (by omega))
  · -- a word
    have dp : isLe (B p) := Classical.byContradiction (fun w => z (r0 w))
    have nd : ¬ isDi (B p) := by unfold isLe at dp; unfold isDi; omega
    have body : ∀ e v, p ≤ e → e ≤ m 139 0 → (∀ q, p ≤ q → q < e → isLe (B q)) → (e - p ≤ 8 → v = vB 27 (ltR B p (e - p).toNat)) → (e < m 139 0 → ∀ v', (∀ q, p ≤ q → q < e + 1 → isLe (B q)) → (e + 1 - p ≤ 8 → v' = vB 27 (ltR B p (e + 1 - p).toNat)) → GL iX11_scan m 12 [(2, 139), (0, p), (0, e + 1), (1, v'), (9, 0), (9, 0)] [] Q) → GL iX11_scan m 12 [(2, 139), (0, p), (0, e), (1, v), (9, 0), (9, 0)] [] Q := by
      intro e v e0 eL h1 hv K
      refine sX11_scan_12 (c_letterR hb (by omega) (fun r r1' r0' => ⟨fun z3 => ?_, fun z3 => ?_⟩))
      · have ne : ¬ isLe (B e) := fun w => by have := r1' w; omega
        have hr : isRun B isLe p e := ⟨e0, h1, ne⟩
        have pe : p < e := by
          have : p ≠ e := fun w => ne (w ▸ dp)
          omega
        have ok := ltR_ok (B := B) (p := p) (n := (e - p).toNat) (fun q a b => h1 q a (by omega))
        rw [jw_id (x := e - p) (by omega) (by omega)]
        have hu : rkU T m (jup m 144 T v) := ⟨frx_upA frx_rf (by decide), fun j hj => ⟨rfl, rfl, rfl, by rw [jup_self, if_neg hj]⟩⟩
        obtain ⟨k, hk⟩ := kdW_ex (ltR B p (e - p).toNat)
        -- the token stands
        have fin : ∀ so wh m', rkU T m m' → m' 139 2 = T + 1 → m' 141 T = so → m' 142 T = p → m' 143 T = wh → m' 144 T = v → (e - p ≤ 8 → k < 22 → so = 3 ∧ wh = wno k) → (e - p ≤ 8 → k = 22 → so = 0) → (8 < e - p → so = 5) → Q e m' := by
          intro so wh m' u' g2 g1 g3 g4 g5 g6 g7 g8
          refine hQ e m' u' g2 pe eL (fun kd vl e' hk' => ?_)
          rcases hk' with ⟨h1, h2, h3⟩ | ⟨h1', h2, h3⟩ | ⟨h1, h2, h3⟩ | ⟨h1, h2, h3, h4, h5⟩
          · omega
          · have ee := isRun_1 h2 hr
            subst ee
            refine ⟨rfl, ?_⟩
            rcases h3 with ⟨h3, h4⟩ | ⟨h3, h4, h5⟩
            · have := g8 h3
              exact ⟨g3, fun a b => by omega, fun a => by omega, fun a => by omega, fun a b => by omega, fun a => by omega, ⟨fun _ => by omega, fun _ => h4⟩, fun a b => by omega⟩
            · have ek := kdW_1 h5 hk
              subst ek
              have kb : 0 ≤ kd ∧ kd ≤ 22 := by rcases hk with w | w <;> omega
              have q6 := g6 h3
              have q7 := g7 h3
              refine ⟨g3, fun a b => ?_, fun a => by rw [g1]; exact q7 a, fun a => by omega, fun a b => by omega, fun a => by omega, ⟨fun a => by omega, fun a => ?_⟩, fun a b => ⟨_, ⟨ok.1, by omega⟩, h4, by rw [g5]; exact hv h3⟩⟩
              · have := q6 b
                rw [g1, g4]; exact this
              · by_cases c : kd < 22
                · have := (q6 c).1; omega
                · have := q7 (by omega); omega
          · exact absurd h1 nd
          · exact absurd dp h2
        have go67 : ∀ s0 : Int, (e - p ≤ 8 → s0 = (if k < 22 then wno k else -1)) → GL iX11_scan m 67 [(2, 139), (0, p), (0, e), (1, v), (9, 0), (9, 0)] [(0, s0)] Q := by
          intro s0 hs0
          refine sX11_scan_67 ?_
          rw [hT, jw_id (x := e - p) (by omega) (by omega)]
          have hT' : (jup m 144 T v) 139 2 = T := by rw [jup_ne (by decide)]; exact hT
          refine ⟨t0, by omega, fun z4 => ⟨fun z5 => c_token hu hT' t0 t1 (fun m' u' g2 g1 g3 g4 g5 => fin 0 _ m' u' g2 g1 g3 g4 (by rw [g5, jup_s]) (fun _ c => ?_) (fun _ _ => rfl) (fun w => by omega)), fun z5 => c_token hu hT' t0 t1 (fun m' u' g2 g1 g3 g4 g5 => fin 3 _ m' u' g2 g1 g3 g4 (by rw [g5, jup_s]) (fun _ c => ⟨rfl, ?_⟩) (fun _ c => ?_) (fun w => by omega))⟩, fun z4 => c_token hu hT' t0 t1 (fun m' u' g2 g1 g3 g4 g5 => fin 5 _ m' u' g2 g1 g3 g4 (by rw [g5, jup_s]) (fun w => absurd w z4) (fun w => absurd w z4) (fun _ => rfl))⟩
          · have h := hs0 z4
            rw [if_pos c] at h
            have k0 : 0 ≤ k := by rcases hk with w | w <;> omega
            have := wno_in k0 c
            omega
          · have h := hs0 z4
            rw [if_pos c] at h
            exact h
          · have h := hs0 z4
            rw [if_neg (by omega)] at h
            omega
        refine ⟨fun z4 => ?_, fun z4 => go67 (-1) (fun w => absurd w z4)⟩
        rw [hv z4]
        refine c_wordOf ⟨ok.1, by omega⟩ hk ?_
        have := go67 _ (fun _ => rfl)
        rw [hv z4] at this
        exact this
      · have de : isLe (B e) := Classical.byContradiction (fun w => z3 (r0' w))
        have eL : e < m 139 0 := Classical.byContradiction (fun w => (out e (by omega)).1 de)
        have h1' : ∀ q, p ≤ q → q < e + 1 → isLe (B q) := fun q a b => by
          by_cases c : q = e
          · rw [c]; exact de
          · exact h1 q a (by omega)
        rw [jw_id (x := e - p) (by omega) (by omega), jw_id (x := e + 1) (by omega) (by omega)]
        refine ⟨fun z4 => K eL v h1' (fun w => by omega), fun z4 => c_byteR hb (by omega) (fun r5 _ r51 => K eL _ h1' (fun w => ?_))⟩
        rw [r51 eL, hv (by omega)]
        have ok := ltR_ok (B := B) (p := p) (n := (e - p).toNat) (fun q a b => h1 q a (by omega))
        have v8 := vB8R ok.1 (by omega)
        unfold isLe at de
        rw [show (e + 1 - p).toNat = (e - p).toNat + 1 by omega]
        simp only [ltR, vB]
        rw [show p + (((e - p).toNat : Nat) : Int) = e by omega]
        generalize vB 27 (ltR B p (e - p).toNat) = y at *
        rw [jw64_id (x := y * 27) (by omega) (by omega), jw64_id (x := y * 27 + B e) (by omega) (by omega), jw64_id (by omega) (by omega)]
        omega
    refine lup (n := m 139 0) (I := fun e (v : Int) => p ≤ e ∧ e ≤ m 139 0 ∧ (∀ q, p ≤ q → q < e → isLe (B q)) ∧ (e - p ≤ 8 → v = vB 27 (ltR B p (e - p).toNat))) (G := fun e v => GL iX11_scan m 12 [(2, 139), (0, p), (0, e), (1, v), (9, 0), (9, 0)] [] Q) ?_ ?_ p 0 ⟨Int.le_refl _, by omega, fun q q0 q1 => by omega, fun _ => by rw [Int.sub_self]; rfl⟩
    · rintro e v he ⟨e0, e1, h1, hv⟩ K
      exact body e v e0 e1 h1 hv (fun _ v' a b => K v' ⟨by omega, by omega, a, b⟩)
    · rintro e v he ⟨e0, e1, h1, hv⟩
      exact body e v e0 e1 h1 hv (fun w => absurd he (by omega))

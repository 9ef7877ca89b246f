/-! the reference's ints and names -/
theorem rX_64 {K S W : Int → Int} {n k c x : Int} {m0 V m : jM} {P : Int × Int × Int} (h : rX K S W n k m0 P V c m) : rX K S W n k m0 P V c (jup m 139 64 x) := by
  obtain ⟨h1, h2, h3, h4⟩ := h
  exact ⟨rdH_up h1 (by unfold okH; omega), rTk_cg h2 (fun q hq => by rw [jup_ne (by omega)]), rPs_cg h3 (fun i hi => by rw [jup_j (by omega)]), rMn_cg h4 (fun q hq => by rw [jup_ne (by omega)]) (fun i hi => by rw [jup_j (by omega)])⟩
theorem c_takesIntR {K S W : Int → Int} {n k c a b : Int} {m0 V m : jM} {P : Int × Int × Int} {B : Prop} [Decidable B] {Q : Int → jM → Prop} (h : rX K S W n k m0 P V c m) (hn : P.1 ≤ n) (h0 : P.2.1 = 0) (hl : loF S V P.1) (hB : 0 ≤ W P.1 → W P.1 ≤ 9999 → (B ↔ W P.1 < a ∨ b < W P.1)) (hQ1 : ∀ m', rX K S W n k m0 (stq K S 23 P) (wrF S B P.1 V) c m' → (stq K S 23 P).2.1 = 0 → m' 139 64 = W P.1 → Q 1 m') (hQ0 : ∀ m', rX K S W n k m0 (stq K S 23 P) V c m' → (stq K S 23 P).2.1 ≠ 0 → Q 0 m') : ML iX11_takesInt [(2, 139), (0, a), (0, b)] m Q := by
  obtain ⟨p0, p1, -⟩ := id h.2.2.1
  refine sX11_takesInt (c_takesR (kk := 23) h hn h0 (Or.inr ⟨rfl, rfl⟩) (fun m' x z => ⟨fun _ => ?_, fun w => absurd (by decide) w⟩) (fun m' x z => ⟨fun w => absurd rfl w, fun _ => hQ0 m' x z⟩))
  have kd := (stq_ok z).2.1
  have tk := (x.2.1.1 P.1 p0.1 hn).2.2.2.1 kd
  have hb := hB tk.2.2.1 tk.2.2.2
  rw [p1, tk.2.1]
  have bad : B → ML iX11_tells [(2, 139), (0, 5), (0, P.1)] (jup m' 139 64 (W P.1)) (fun _ m12 => Q 1 m12) := by
    intro hBB
    refine c_tellsR (rX_64 x) p0.1 hn (by decide) (fun w => Or.inl (hl w)) (fun m2 x2 f2 => hQ1 m2 ?_ z (by rw [f2 64 (by decide) (by decide), jup_s]))
    have e : wrF S B P.1 V = ltF S 5 P.1 V := by unfold wrF; rw [if_pos hBB]
    rw [e]; exact x2
  refine ⟨p0.1, by omega, fun z2 => bad (hb.mpr (Or.inl z2)), fun z2 => ⟨fun z3 => ?_, fun z3 => bad (hb.mpr (Or.inr (by omega)))⟩⟩
  have e : wrF S B P.1 V = V := by unfold wrF; rw [if_neg (fun w => by have := hb.mp w; omega)]
  rw [e] at hQ1
  exact hQ1 _ (rX_64 x) z jup_s
/-- names as they must be -/
def nmI (V : jM) : Prop := 0 ≤ V 0 10 ∧ (∀ i j, 0 ≤ i → i < j → j < V 0 10 → V 30 i ≠ V 30 j) ∧ (∀ i, 0 ≤ i → i < V 0 10 → V 31 i = -1 ∨ (0 ≤ V 31 i ∧ V 31 i < V 0 0)) ∧ ∀ i j, 0 ≤ i → i < j → j < V 0 10 → V 31 i = V 31 j → V 31 i = -1
theorem ix_in {V : jM} {x : Int} (h : 0 ≤ V 0 10) : (ix V x = -1 ∧ ∀ i : Int, 0 ≤ i → i < V 0 10 → V 30 i ≠ x) ∨ (0 ≤ ix V x ∧ ix V x < V 0 10 ∧ V 30 (ix V x) = x ∧ ∀ i : Int, 0 ≤ i → i < ix V x → V 30 i ≠ x) := by
  have e := ixL_in (V := V) (x := x) (V 0 10).toNat
  rw [Int.toNat_of_nonneg h] at e
  exact e
theorem ix_at {V : jM} {x j : Int} (h : nmI V) (j0 : 0 ≤ j) (j1 : j < V 0 10) (e : V 30 j = x) : ix V x = j := by
  rcases ix_in (V := V) (x := x) h.1 with ⟨-, g⟩ | ⟨a, b, g, d⟩
  · exact absurd e (g j j0 j1)
  · rcases Int.lt_trichotomy (ix V x) j with q | q | q
    · exact absurd (g.trans e.symm) (h.2.1 _ j a q j1)
    · exact q
    · exact absurd e (d j j0 q)
theorem tlN_late {W S : Int → Int} {tok w : Int} {V : jM} (h : V 0 11 ≠ 0) : tlN W S tok w V 0 11 = V 0 11 ∧ tlN W S tok w V 0 12 = V 0 12 := by
  unfold tlN
  split
  · rw [ltF_id h]; exact ⟨rfl, rfl⟩
  · exact ⟨by rw [jup_j (by decide), jup_ne (by decide), jup_ne (by decide)], by rw [jup_j (by decide), jup_ne (by decide), jup_ne (by decide)]⟩
theorem plN_late {W S : Int → Int} {tok : Int} {V : jM} (h : V 0 11 ≠ 0) : (plN W S tok V).2 = V := by
  unfold plN
  split
  · exact ltF_id h
  · split
    · exact ltF_id h
    · rfl
/-- is a name's value that of a token -/
theorem nm_eq {K S W : Int → Int} {n i tok : Int} {V m : jM} (hT : rTk K S W n m) (hN : rNa V m) (t0 : 0 ≤ tok) (t1 : tok ≤ n) (hk : K tok = 22) (i0 : 0 ≤ i) (i1 : i < V 0 10) : jcmp (m 172 i) (m 144 tok) ≠ 0 ↔ V 30 i ≠ W tok := by
  obtain ⟨l, l1, l2, l3⟩ := (hT.1 tok t0 t1).2.2.2.2.2.2.2 (by omega) (by omega)
  obtain ⟨⟨g, g1, g2, g3⟩, -⟩ := hN.2 i i0 i1
  rw [jcmp_ne, l2, l3, g2, g3]
  constructor
  · intro h e
    exact h (by rw [vB_inj (by decide) g1.1 l1.1 e])
  · intro h e
    exact h (by rw [vB_inj (by decide) g1.1 l1.1 e])
theorem c_namesR {K S W : Int → Int} {n k c w : Int} {m0 V m : jM} {P : Int × Int × Int} {Q : Int → jM → Prop} (h : rX K S W n k m0 P V c m) (hn : P.1 ≤ n) (h0 : P.2.1 = 0) (hl : loF S V P.1) (hc : c + 1 ≤ 24) (hI : nmI V) (hQ1 : ∀ m', rX K S W n k m0 (stq K S 22 P) (tlN W S P.1 w V) (c + 1) m' → (stq K S 22 P).2.1 = 0 → Q 1 m') (hQ0 : ∀ m', rX K S W n k m0 (stq K S 22 P) V c m' → (stq K S 22 P).2.1 ≠ 0 → Q 0 m') : ML iX11_names [(2, 139), (0, w)] m Q := by
  obtain ⟨p0, p1, -⟩ := id h.2.2.1
  refine sX11_names (c_takesR (kk := 22) h hn h0 (Or.inl ⟨rfl, rfl⟩) (fun m1 x1 z => ⟨fun _ => ?_, fun w => absurd (by decide) w⟩) (fun m' x z => ⟨fun w => absurd rfl w, fun _ => hQ0 m' x z⟩))
  have kd := (stq_ok z).2.1
  rw [p1]
  have key : ∀ (f : Nat) (j : Int) (U m2 : jM), 25 - j ≤ f → 0 ≤ j → j ≤ m2 139 41 → rX K S W n k m0 (stq K S 22 P) U c m2 → ((U = V ∧ (V 0 11 = 0 → ∀ i, 0 ≤ i → i < j → i < V 0 10 → V 30 i ≠ W P.1)) ∨ (U = ltF S 3 P.1 V ∧ (V 0 11 = 0 → ix V (W P.1) ≠ -1))) → GL iX11_names m2 17 [(2, 139), (0, w), (0, P.1), (0, j)] [] Q := by
    intro f
    induction f with
    | zero =>
      intro j U m2 hf j0 j1 x2 _
      have b := x2.2.2.2.1.2.2.1
      omega
    | succ f ih =>
      intro j U m2 hf j0 jm x2 hU
      obtain ⟨c1, c2, c3, c4, c5⟩ := id x2.2.2.2.1
      have n4 := x2.2.1.2.2.2
      refine sX11_names_17 ⟨fun zj => ?_, fun zj => ?_⟩
      · refine ⟨p0.1, by omega, by omega, by omega, by omega, by omega, ?_⟩
        rw [jw_id (x := m2 139 41 + 1) (by omega) (by omega)]
        generalize hm3 : jup (jup (jup m2 172 (m2 139 41) (m2 144 P.1)) 173 (m2 139 41) w) 139 41 (m2 139 41 + 1) = m3
        have r3 : ∀ q, q ≠ 139 → q ≠ 172 → q ≠ 173 → m3 q = m2 q := fun q a b d => by rw [← hm3, jup_ne a, jup_ne d, jup_ne b]
        have f3 : ∀ i, i ≠ 41 → m3 139 i = m2 139 i := fun i hi => by rw [← hm3, jup_j hi, jup_ne (by decide), jup_ne (by decide)]
        have e41 : m3 139 41 = m2 139 41 + 1 := by rw [← hm3, jup_s]
        have ct : ∀ V', (∀ j, 0 ≤ j → j ≤ 4 → V' 0 j = U 0 j) → V' 0 11 = U 0 11 → V' 0 12 = U 0 12 → rCt V' (c + 1) k m3 := by
          intro V' g0 g11 g12
          refine ⟨by rw [f3 13 (by decide)]; exact c1, ?_, ⟨by omega, by omega, hc⟩, by rw [f3 10 (by decide), g11]; exact c4, by rw [f3 11 (by decide), g11, g12]; exact c5⟩
          rw [r3 147 (by decide) (by decide) (by decide), r3 148 (by decide) (by decide) (by decide), r3 154 (by decide) (by decide) (by decide), r3 157 (by decide) (by decide) (by decide), r3 159 (by decide) (by decide) (by decide), g0 0 (by decide) (by decide), g0 1 (by decide) (by decide), g0 2 (by decide) (by decide), g0 3 (by decide) (by decide), g0 4 (by decide) (by decide)]
          exact c2
        refine hQ1 m3 ⟨?_, rTk_cg x2.2.1 (fun q hq => r3 q (by omega) (by omega) (by omega)), rPs_cg x2.2.2.1 (fun i hi => f3 i (by omega)), ?_⟩ z
        · rw [← hm3]
          exact rdH_up (rdH_up (rdH_up x2.1 (by unfold okH; omega)) (by unfold okH; omega)) (by unfold okH; omega)
        · by_cases late : V 0 11 = 0
          · by_cases hx : ix V (W P.1) = -1
            · -- a new name
              have eU : U = V := by
                rcases hU with a | a
                · exact a.1
                · exact absurd hx (a.2 late)
              subst eU
              have e : tlN W S P.1 w U = jup (jup (jup U 30 (U 0 10) (W P.1)) 31 (U 0 10) w) 0 10 (U 0 10 + 1) := by unfold tlN; rw [if_neg (fun y => y hx)]
              rw [e]
              have N := (x2.2.2.2.2 late).1
              have R := (x2.2.2.2.2 late).2
              obtain ⟨l, l1, l2, l3⟩ := (x2.2.1.1 P.1 p0.1 hn).2.2.2.2.2.2.2 (by omega) (by omega)
              refine ⟨ct _ (fun j j0 j1 => by rw [jup_j (by omega), jup_ne (by decide), jup_ne (by decide)]) (by rw [jup_j (by decide), jup_ne (by decide), jup_ne (by decide)]) (by rw [jup_j (by decide), jup_ne (by decide), jup_ne (by decide)]), fun _ => ⟨⟨?_, fun i i0 i1 => ?_⟩, ?_⟩⟩
              · rw [e41, jup_s, N.1]
              · rw [jup_s] at i1
                have n1 := N.1
                have e172 : m3 172 i = if i = U 0 10 then m2 144 P.1 else m2 172 i := by rw [← hm3, jup_ne (by decide), jup_ne (by decide), jup_self, n1]
                have e173 : m3 173 i = if i = U 0 10 then w else m2 173 i := by rw [← hm3, jup_ne (by decide), jup_self, n1, jup_ne (by decide)]
                have e30 : (jup (jup (jup U 30 (U 0 10) (W P.1)) 31 (U 0 10) w) 0 10 (U 0 10 + 1)) 30 i = if i = U 0 10 then W P.1 else U 30 i := by rw [jup_ne (by decide), jup_ne (by decide), jup_self]
                have e31 : (jup (jup (jup U 30 (U 0 10) (W P.1)) 31 (U 0 10) w) 0 10 (U 0 10 + 1)) 31 i = if i = U 0 10 then w else U 31 i := by rw [jup_ne (by decide), jup_self, jup_ne (by decide)]
                rw [e172, e173, e30, e31]
                by_cases ei : i = U 0 10
                · rw [if_pos ei, if_pos ei, if_pos ei, if_pos ei]
                  exact ⟨⟨l, l1, l2, l3⟩, rfl⟩
                · rw [if_neg ei, if_neg ei, if_neg ei, if_neg ei]
                  exact N.2 i i0 (by omega)
              · refine rRw_V (rRw_cg R (fun q hq => r3 q (by omega) (by omega) (by omega))) (fun j j0 j1 => by rw [jup_j (by omega), jup_ne (by decide), jup_ne (by decide)]) (fun p p0 p1 => by rw [jup_ne (by omega), jup_ne (by omega), jup_ne (by omega)])
            · -- told before
              have eU : U = ltF S 3 P.1 V := by
                rcases hU with ⟨a, b⟩ | a
                · exfalso
                  rcases ix_in (V := V) (x := W P.1) hI.1 with ⟨g, -⟩ | ⟨g1, g2, g3, -⟩
                  · exact hx g
                  · have nn := (x2.2.2.2.2 (by rw [a]; exact late)).1.1
                    rw [a] at nn
                    exact b late _ g1 (by omega) g2 g3
                · exact a.1
              have e : tlN W S P.1 w V = U := by unfold tlN; rw [if_pos hx, eU]
              rw [e]
              exact ⟨ct U (fun _ _ _ => rfl) rfl rfl, fun y => absurd y (by rw [eU]; exact ltF_11 (by decide))⟩
          · have eU : U = V := by
              rcases hU with a | a
              · exact a.1
              · rw [a.1, ltF_id late]
            subst eU
            have e := tlN_late (W := W) (S := S) (tok := P.1) (w := w) late
            exact ⟨ct _ (fun j j0 j1 => tlN_V.1 j (by omega) (by omega) (by omega)) e.1 e.2, fun y => absurd (e.1.symm.trans y) late⟩
      · rw [jw_id (x := j + 1) (by omega) (by omega)]
        refine ⟨j0, by omega, p0.1, by omega, fun z2 => ih (j + 1) U m2 (by omega) (by omega) (by omega) x2 ?_, fun z2 => ?_⟩
        · rcases hU with ⟨a, b⟩ | a
          · refine Or.inl ⟨a, fun late i i0 i1 i2 => ?_⟩
            by_cases e : i = j
            · have N := (x2.2.2.2.2 (by rw [a]; exact late)).1
              rw [a] at N
              rw [e]
              rw [e] at i0 i2
              exact (nm_eq x2.2.1 N p0.1 hn kd i0 i2).mp z2
            · exact b late i i0 (by omega) i2
          · exact Or.inr a
        · have hit : V 0 11 = 0 → U = V → ix V (W P.1) ≠ -1 := by
            intro late a
            have N := (x2.2.2.2.2 (by rw [a]; exact late)).1
            rw [a] at N
            have n1 := N.1
            have := ix_at hI j0 (by omega) (Classical.byContradiction (fun y => z2 ((nm_eq x2.2.1 N p0.1 hn kd j0 (by omega)).mpr y)))
            omega
          refine c_tellsR x2 p0.1 hn (by decide) (fun y => ?_) (fun m3 x3 f3 => ?_)
          · rcases hU with ⟨a, b⟩ | ⟨a, b⟩
            · rw [a] at y ⊢; exact Or.inl (hl y)
            · by_cases late : V 0 11 = 0
              · right
                have e : U = jup (jup V 0 11 3) 0 12 (S P.1) := by rw [a]; unfold ltF; rw [if_neg (fun y => y late)]
                rw [e, jup_s, jup_j (by decide), jup_s]
                exact ⟨rfl, Int.le_refl _⟩
              · rw [a, ltF_id late] at y ⊢; exact Or.inl (hl y)
          · refine ih (j + 1) _ m3 (by omega) (by omega) (by rw [f3 41 (by decide) (by decide)]; omega) x3 (Or.inr ?_)
            rcases hU with ⟨a, b⟩ | ⟨a, b⟩
            · rw [a]; exact ⟨rfl, fun late => hit late a⟩
            · refine ⟨?_, b⟩
              rw [a]
              exact ltF_id (ltF_11 (by decide))
  exact key 25 0 V m1 (by omega) (Int.le_refl _) x1.2.2.2.1.2.2.1.1 x1 (Or.inl ⟨rfl, fun _ i i0 i1 => by omega⟩)
theorem c_placeAtR {K S W : Int → Int} {n k c tok : Int} {m0 V m : jM} {P : Int × Int × Int} {Q : Int → jM → Prop} (h : rX K S W n k m0 P V c m) (t0 : 0 ≤ tok) (t1 : tok ≤ n) (hk : K tok = 22) (hI : nmI V) (hl : loF S V tok) (hQ : ∀ r m', rX K S W n k m0 P (plN W S tok V).2 c m' → ((plN W S tok V).2 0 11 = 0 → r = (plN W S tok V).1) → Q r m') : ML iX11_placeAt [(2, 139), (0, tok)] m Q := by
  obtain ⟨c1, c2, c3, c4, c5⟩ := id h.2.2.2.1
  have n4 := h.2.1.2.2.2
  refine sX11_placeAt ?_
  have key : ∀ (f : Nat) (j : Int), 25 - j ≤ f → 0 ≤ j → j ≤ m 139 41 → (V 0 11 = 0 → ∀ i, 0 ≤ i → i < j → i < V 0 10 → V 30 i ≠ W tok ∨ V 31 i = -1) → GL iX11_placeAt m 2 [(2, 139), (0, tok), (0, j)] [] Q := by
    intro f
    induction f with
    | zero =>
      intro j hf j0 j1 _
      omega
    | succ f ih =>
      intro j hf j0 jm hj
      refine sX11_placeAt_2 ⟨fun zj => ?_, fun zj => ?_⟩
      · refine c_tellsR h t0 t1 (by decide) (fun y => Or.inl (hl y)) (fun m3 x3 f3 => ?_)
        have e : (plN W S tok V).2 = ltF S 4 tok V := by
          by_cases late : V 0 11 = 0
          · have nn := (h.2.2.2.2 late).1.1
            unfold plN
            by_cases a : ix V (W tok) = -1
            · rw [if_pos a]
            · rw [if_neg a]
              rcases ix_in (V := V) (x := W tok) hI.1 with ⟨g, -⟩ | ⟨g1, g2, g3, -⟩
              · exact absurd g a
              · rcases hj late _ g1 (by omega) g2 with y | y
                · exact absurd g3 y
                · rw [if_pos y]
          · rw [plN_late late, ltF_id late]
        refine hQ (-1) m3 (by rw [e]; exact x3) (fun y => absurd y (by rw [e]; exact ltF_11 (by decide)))
      · rw [jw_id (x := j + 1) (by omega) (by omega)]
        have nx : (V 0 11 = 0 → j < V 0 10 → V 30 j ≠ W tok ∨ V 31 j = -1) → GL iX11_placeAt m 2 [(2, 139), (0, tok), (0, j + 1)] [] Q := by
          intro g
          refine ih (j + 1) (by omega) (by omega) (by omega) (fun late i i0 i1 i2 => ?_)
          by_cases e : i = j
          · rw [e]; rw [e] at i2; exact g late i2
          · exact hj late i i0 (by omega) i2
        refine ⟨j0, by omega, t0, by omega, fun z2 => nx (fun late g => Or.inl ((nm_eq h.2.1 (h.2.2.2.2 late).1 t0 t1 hk j0 g).mp z2)), fun z2 => ⟨j0, by omega, fun z3 => nx (fun late g => Or.inr ?_), fun z3 => ⟨j0, by omega, ?_⟩⟩⟩
        · have := ((h.2.2.2.2 late).1.2 j j0 g).2
          have := hI.2.2.1 j j0 g
          omega
        · by_cases late : V 0 11 = 0
          · have N := (h.2.2.2.2 late).1
            have n1 := N.1
            have e1 : V 30 j = W tok := Classical.byContradiction (fun y => z2 ((nm_eq h.2.1 N t0 t1 hk j0 (by omega)).mpr y))
            have e2 := ix_at hI j0 (by omega) e1
            have e3 := (N.2 j j0 (by omega)).2
            have e : plN W S tok V = (V 31 j, V) := by
              unfold plN
              rw [e2, if_neg (by omega), if_neg (by omega)]
            refine hQ _ m (by rw [e]; exact h) (fun _ => by rw [e]; exact e3)
          · refine hQ _ m (by rw [plN_late late]; exact h) (fun y => absurd y (by rw [plN_late late]; exact late))
  exact key 25 0 (by omega) (Int.le_refl _) c3.1 (fun _ i i0 i1 => by omega)

/-! RIGHT in the reference; what is told of rights stays -/
theorem vwC {m m' : jM} {k : Int} (h : ∀ q, 160 ≤ q → q ≤ 171 → m' q = m q) : ∀ p, 20 ≤ p → p < 30 → vw m' k 0 0 p = vw m k 0 0 p := by
  intro p p0 p1
  have c : p = 20 ∨ p = 21 ∨ p = 22 ∨ p = 23 ∨ p = 24 ∨ p = 25 ∨ p = 26 ∨ p = 27 ∨ p = 28 ∨ p = 29 := by omega
  rcases c with rfl | rfl | rfl | rfl | rfl | rfl | rfl | rfl | rfl | rfl
  · show cut 8 (fun i => m' 160 (8 * k + i) - 200 * k) = cut 8 (fun i => m 160 (8 * k + i) - 200 * k)
    rw [h 160 (by decide) (by decide)]
  · show cut 8 (fun i => m' 161 (8 * k + i) - 200 * k) = cut 8 (fun i => m 161 (8 * k + i) - 200 * k)
    rw [h 161 (by decide) (by decide)]
  · show cut 500 (fun i => m' 163 (500 * k + i)) = cut 500 (fun i => m 163 (500 * k + i))
    rw [h 163 (by decide) (by decide)]
  · show cut 500 (fun i => m' 164 (500 * k + i)) = cut 500 (fun i => m 164 (500 * k + i))
    rw [h 164 (by decide) (by decide)]
  · show cut 200 (fun i => m' 166 (200 * k + i)) = cut 200 (fun i => m 166 (200 * k + i))
    rw [h 166 (by decide) (by decide)]
  · show cut 200 (fun i => m' 167 (200 * k + i)) = cut 200 (fun i => m 167 (200 * k + i))
    rw [h 167 (by decide) (by decide)]
  · show cut 200 (fun i => m' 168 (200 * k + i) - 500 * k) = cut 200 (fun i => m 168 (200 * k + i) - 500 * k)
    rw [h 168 (by decide) (by decide)]
  · show cut 200 (fun i => m' 169 (200 * k + i) - 500 * k) = cut 200 (fun i => m 169 (200 * k + i) - 500 * k)
    rw [h 169 (by decide) (by decide)]
  · show cut 200 (fun i => m' 170 (200 * k + i) - 500 * k) = cut 200 (fun i => m 170 (200 * k + i) - 500 * k)
    rw [h 170 (by decide) (by decide)]
  · show cut 200 (fun i => m' 171 (200 * k + i)) = cut 200 (fun i => m 171 (200 * k + i))
    rw [h 171 (by decide) (by decide)]
theorem litK_cg {V V' : jM} {i : Int} (h : ∀ p, 20 ≤ p → p < 30 → V' p = V p) (hl : litK V i) : litK V' i := by
  unfold litK at *
  rw [h 22 (by decide) (by decide), h 23 (by decide) (by decide), h 24 (by decide) (by decide), h 26 (by decide) (by decide), h 27 (by decide) (by decide), h 28 (by decide) (by decide)]
  exact hl
/-- where a right's code begins -/
def rgS (V : jM) (r : Int) : Int := if r = 0 then 0 else V 33 (r - 1)
/-- one right, as both hold it -/
def rg1 (k : Int) (V m : jM) (r : Int) : Prop := (0 ≤ rgS V r ∧ rgS V r ≤ V 33 r ∧ V 33 r ≤ V 0 16) ∧ cOk (V 32) (rgS V r) (V 33 r) ∧ (0 ≤ vw m k 0 0 20 r ∧ vw m k 0 0 20 r < vw m k 0 0 21 r ∧ vw m k 0 0 21 r ≤ m 165 k - 200 * k) ∧ (∀ i, vw m k 0 0 20 r ≤ i → i < vw m k 0 0 21 r → ltI k (m 162 k - 500 * k) m i) ∧ ∀ x, (cTop (cEv (V 32) x (rgS V r) (V 33 r - rgS V r).toNat) ≠ 0 ↔ heldB (vw m k 0 0) x (vw m k 0 0 20 r) (vw m k 0 0 21 r) = true)
def rgI (k : Int) (V m : jM) : Prop := (0 ≤ m 162 k - 500 * k ∧ m 162 k - 500 * k ≤ V 0 16) ∧ (0 ≤ m 165 k - 200 * k ∧ 2 * (m 165 k - 200 * k) ≤ m 162 k - 500 * k) ∧ rgS V (V 0 4) = V 0 16 ∧ ∀ r, 0 ≤ r → r < V 0 4 → rg1 k V m r
theorem rgI_cg {k : Int} {V V' m m' : jM} (h : rgI k V m) (hm : ∀ q, 160 ≤ q → q ≤ 171 → m' q = m q) (hV : cdK V V') : rgI k V' m' := by
  have e := vwC (k := k) hm
  obtain ⟨v1, v2, v3, v4⟩ := hV
  have er : ∀ r, rgS V' r = rgS V r := fun r => by unfold rgS; rw [v4]
  obtain ⟨h1, h2, h3, h4⟩ := h
  refine ⟨by rw [hm 162 (by decide) (by decide), v1]; exact h1, by rw [hm 162 (by decide) (by decide), hm 165 (by decide) (by decide)]; exact h2, by rw [er, v1, v2]; exact h3, fun r r0 r1 => ?_⟩
  rw [v2] at r1
  obtain ⟨g1, g2, g3, g4, g5⟩ := h4 r r0 r1
  refine ⟨by rw [er, v4, v1]; exact g1, by rw [er, v4, v3]; exact g2, by rw [e 20 (by decide) (by decide), e 21 (by decide) (by decide), hm 165 (by decide) (by decide)]; exact g3, fun i i0 i1 => ?_, fun x => ?_⟩
  · rw [e 20 (by decide) (by decide)] at i0
    rw [e 21 (by decide) (by decide)] at i1
    have g := g4 i i0 i1
    refine ⟨litK_cg e g.1, ?_⟩
    rw [e 28 (by decide) (by decide), hm 162 (by decide) (by decide)]
    exact g.2
  · rw [er, v4, v3, e 20 (by decide) (by decide), e 21 (by decide) (by decide), heldB_cg e]
    exact g5 x
theorem c_rightR {K S W : Int → Int} {n k c : Int} {m V : jM} {P : Int × Int × Int} {Q : Int → jM → Prop} (h : rX K S W n k m P V c m) (hn : P.1 ≤ n) (h0 : P.2.1 = 0) (hv : tV K W n) (o : smOk V) (hc : V 0 16 ≤ P.1) (hR : rgI k V m) (hk : K P.1 = 4)
    (hQ0 : ∀ m', rdC k 0 0 m m' → rTk K S W n m' → (xfR K S W V P).1.2.1 ≠ 0 → rPs (xfR K S W V P).1 m' → Q 0 m')
    (hQ1 : ∀ (Pe : Int × Int × Int) (m1 : jM) (m' : jM), rdC k 0 0 m m1 → (∀ q i, ¬ ((q = 160 ∨ q = 161) ∧ i = 8 * k + V 0 4) → ¬ (q = 159 ∧ i = k) → m' q i = m1 q i) → rTk K S W n m' → (xfR K S W V P).1 = stq K S 24 Pe → Pe.2.1 = 0 → Pe.1 ≤ n → rPs Pe m' → ((xfR K S W V P).1.2.1 = 0 → rMn (smRight K S W V P) c k m' ∧ rgI k (smRight K S W V P) m') → Q 1 m') : ML iX11_tellRight [(2, 139)] m Q := by
  have c1 := h.2.2.2.1
  have kb := c1.1.1
  have kb2 := c1.1.2.1
  have o4 := o.2.2.2.2.2.2.2.2.1
  have o44 := o.2.2.2.2.2.2.2.2.2.1
  have p0 := h.2.2.1.1
  obtain ⟨R1, R2, R3, R4⟩ := id hR
  refine sX11_tellRight ?_
  rw [c1.1.2.2, c1.2.1.2.2.2.2]
  refine ⟨kb, kb2, fun z => ?_, fun z => ?_⟩
  · have rm : rmF S (V 0 4) 8 P = P := by unfold rmF; rw [if_pos (by omega)]
    have e0 : (x0R K S V P).1 = stq K S 13 (stq K S 4 P) := by unfold x0R; rw [rm]
    have bad : ∀ m', rdH m m' → rTk K S W n m' → (x0R K S V P).1.2.1 ≠ 0 → rPs (x0R K S V P).1 m' → Q 0 m' := by
      intro m' a b d e
      have ex : xfR K S W V P = x0R K S V P := xlp_f d
      exact hQ0 m' (rdC_H a) b (by rw [ex]; exact d) (by rw [ex]; exact e)
    refine c_passR (kk := 4) h hn h0 hk (fun m1 x1 z1 => ⟨fun _ => ?_, fun w => absurd (by decide) w⟩) (fun m1 x1 z1 => ⟨fun w => absurd rfl w, fun _ => bad m1 x1.1 x1.2.1 (by rw [e0, stq_f z1]; exact z1) (by rw [e0, stq_f z1]; exact x1.2.2.1)⟩)
    have n1 : (stq K S 4 P).1 ≤ n := stq_n hv hn (by decide)
    have e1 : (stq K S 4 P).1 = P.1 + 1 := stq_1 z1
    refine c_isWordR (kk := 13) x1 n1 (by decide) (by decide) (by decide) (fun k13 => ⟨fun _ => ?_, fun w => absurd (by decide) w⟩) (fun k13 => ⟨fun w => absurd rfl w, fun _ => ?_⟩)
    · refine c_passR (kk := 13) x1 n1 z1 k13 (fun m2 x2 z2 => ⟨fun w => absurd w (by decide), fun _ => ?_⟩) (fun m2 x2 z2 => ⟨fun _ => bad m2 x2.1 x2.2.1 (by rw [e0]; exact z2) (by rw [e0]; exact x2.2.2.1), fun w => absurd rfl w⟩)
      have n2 : (stq K S 13 (stq K S 4 P)).1 ≤ n := stq_n hv n1 (by decide)
      have e2 : (stq K S 13 (stq K S 4 P)).1 = P.1 + 2 := by rw [stq_1 z2]; omega
      have d2 := x2.2.2.2.1
      refine sX11_cond ?_
      rw [d2.1.2.2]
      refine ⟨kb, kb2, ?_⟩
      have r2 : ∀ q, 160 ≤ q → q ≤ 171 → m2 q = m q := fun q a b => rdH_row x2.1 (by omega) (by omega) (by omega)
      have e165 : m2 165 k = m 165 k := by rw [r2 165 (by decide) (by decide)]
      have e162 : m2 162 k = m 162 k := by rw [r2 162 (by decide) (by decide)]
      rw [e165]
      obtain ⟨lt, elt⟩ : ∃ lt, m 165 k = 200 * k + lt := ⟨m 165 k - 200 * k, by omega⟩
      have V0 : ∀ j, j < 20 → (x0R K S V P).2.2 0 j = V 0 j := fun j hj => by unfold x0R; simp only; rw [jup_j (by omega), jup_j (by omega), jup_j (by omega), jup_j (by omega)]
      have Vp : ∀ p, p ≠ 0 → (x0R K S V P).2.2 p = V p := fun p hp => by unfold x0R; simp only; rw [jup_ne hp, jup_ne hp, jup_ne hp, jup_ne hp]
      have f20 : (x0R K S V P).2.2 0 20 = 1 ∧ (x0R K S V P).2.2 0 21 = 1 ∧ (x0R K S V P).2.2 0 22 = 1 ∧ (x0R K S V P).2.2 0 23 = 0 := by unfold x0R; simp [jup]
      have X0 : (x0R K S V P) = ((x0R K S V P).1, [], (x0R K S V P).2.2) := rfl
      have I0 : XI n (x0R K S V P) := by
        refine ⟨?_, fun _ => ⟨f20.2.2.2, ?_⟩, ?_, ?_, by rw [e0]; exact n2, ?_, fun w => ?_⟩
        · show (x0R K S V P).2.2 0 23 = 0
          exact f20.2.2.2
        · show (0 : Int) ≤ 3; decide
        · rw [V0 16 (by decide), e0, e2]
          show V 0 16 + ((0 : Nat) : Int) + 2 ≤ P.1 + 2
          omega
        · rw [f20.2.2.2]; decide
        · rw [V0 16 (by decide)]; omega
        · rw [f20.1] at w; exact absurd w (by decide)
      generalize hm3 : jup m2 139 68 (m 165 k) = m3
      have r3 : ∀ q, q ≠ 139 → m3 q = m2 q := fun q hq => by rw [← hm3, jup_ne hq]
      have f3 : ∀ i, i ≠ 68 → m3 139 i = m2 139 i := fun i hi => by rw [← hm3, jup_j hi]
      have X3 : rX K S W n k m3 (x0R K S V P).1 V c m3 := ⟨rdH_rf, rTk_cg x2.2.1 (fun q hq => r3 q (by omega)), rPs_cg (by rw [e0]; exact x2.2.2.1) (fun i hi => f3 i (by omega)), rMn_cg x2.2.2.2 (fun q hq => r3 q (by omega)) (fun i hi => f3 i (by omega))⟩
      have C3 : ∀ c0 l0, rdC k c0 l0 m m3 := fun c0 l0 => by rw [← hm3]; exact rdC_up (rdC_H x2.1) (by unfold okC; omega)
      have e165' : m3 165 k - 200 * k = lt := by rw [r3 165 (by decide), e165]; omega
      have e162' : m3 162 k - 500 * k = m 162 k - 500 * k := by rw [r3 162 (by decide), e162]
      refine c_condLoop (st := V 0 16) (lb := lt) (c0 := m 162 k - 500 * k) (l0 := lt) (m0 := m) (V0 := V) (c := c) (Va := (x0R K S V P).2.2) (F := 401) (X0 := x0R K S V P) hv (fun m' a b d e => ⟨fun w => absurd rfl w, fun _ => hQ0 m' (fun q i hq => a q i (by unfold okC at *; omega)) b d e⟩) (fun Pe m5 a1 a2 a3 a4 a5 a6 => ⟨fun _ => ?fin, fun w => absurd (by decide) w⟩) 401 401 (x0R K S V P).1 [] 0 (x0R K S V P).2.2 m3 (by rw [e0, e2]; omega) rfl (by rw [e0, e2]; omega) (by rw [e0]; exact z2) I0 ⟨Int.le_refl _, fun _ _ => rfl, fun _ _ _ => rfl, fun _ _ => rfl⟩ (C3 _ _) X3 (by rw [e162']; exact Int.le_refl _) (by rw [e165']; exact Int.le_refl _) ⟨Or.inl rfl, ⟨kb, kb2, by rw [f3 13 (by decide)]; exact d2.1.2.2⟩, ?_, ?_, ?_, ?_, ?_, ?_, ?_, ?_, ?_, f20⟩
      case fin =>
        have d5 := a5.2.2.2.1
        have g59 := d5.2.1.2.2.2.2
        have r5 : m5 165 k = m5 165 k := rfl
        rw [d5.1.2.2, g59, jw_id (x := 8 * k) (by omega) (by omega), jw_id (x := 8 * k + V 0 4) (by omega) (by omega), jw_id (x := V 0 4 + 1) (by omega) (by omega)]
        refine ⟨kb, kb2, by omega, by omega, kb, kb2, by omega, by omega, kb, kb2, kb, kb2, ?_⟩
        generalize hm6 : jup (jup (jup m5 160 (8 * k + V 0 4) (m5 139 68)) 161 (8 * k + V 0 4) (m5 165 k)) 159 k (V 0 4 + 1) = m6
        have r6 : ∀ q, q ≠ 160 → q ≠ 161 → q ≠ 159 → m6 q = m5 q := fun q a b d => by rw [← hm6, jup_ne d, jup_ne b, jup_ne a]
        have aC : rdC k 0 0 m m5 := fun q i hq => a1 q i (by unfold okC at *; omega)
        refine hQ1 Pe m5 m6 aC (fun q i hq hq2 => ?_) (rTk_cg a5.2.1 (fun q hq => r6 q (by omega) (by omega) (by omega))) a2 a3 a4 (rPs_cg a5.2.2.1 (fun i hi => by rw [r6 139 (by decide) (by decide) (by decide)])) (fun hz => ?_)
        · rw [← hm6]
          unfold jup
          rw [if_neg (by omega), if_neg (by omega), if_neg (by omega)]
        · obtain ⟨⟨q1, q2, q3, q4, q5, q6, q7⟩, ⟨w1, w2, w3, w4⟩, mono⟩ := a6 hz
          have eF : (xlp K S W 401 (x0R K S V P)).2.2 = (xfR K S W V P).2.2 := rfl
          rw [eF] at q1 q2 q3 q7 w1 w2 w3 w4
          generalize hVF : (xfR K S W V P).2.2 = VF at *
          have eS : smRight K S W V P = jup (jup VF 33 (V 0 4) (VF 0 16)) 0 4 (V 0 4 + 1) := by unfold smRight; rw [hVF]
          rw [eS]
          generalize hV' : jup (jup VF 33 (V 0 4) (VF 0 16)) 0 4 (V 0 4 + 1) = V'
          have s0 : ∀ j, j ≠ 4 → V' 0 j = VF 0 j := fun j hj => by rw [← hV', jup_j hj, jup_ne (by decide)]
          have s04 : V' 0 4 = V 0 4 + 1 := by rw [← hV', jup_s]
          have sp : ∀ p, p ≠ 0 → p ≠ 33 → V' p = VF p := fun p a b => by rw [← hV', jup_ne a, jup_ne b]
          have s33 : ∀ r, V' 33 r = if r = V 0 4 then VF 0 16 else V 33 r := fun r => by
            rw [← hV', jup_ne (by decide), jup_self, w3 33 (by decide) (by decide), Vp 33 (by decide)]
          have t0 : ∀ j, j < 16 → j ≠ 4 → V' 0 j = V 0 j := fun j a b => by rw [s0 j b, w2 j a, V0 j (by omega)]
          have tp : ∀ p, p ≠ 0 → p ≠ 32 → p ≠ 33 → V' p = V p := fun p a b d => by rw [sp p a d, w3 p a b, Vp p a]
          have t32 : ∀ i, i < V 0 16 → V' 32 i = V 32 i := fun i hi => by rw [sp 32 (by decide) (by decide), w4 i (by rw [V0 16 (by decide)]; exact hi), Vp 32 (by decide)]
          rw [V0 16 (by decide)] at w1
          constructor
          · -- counts and rows
            refine ⟨⟨⟨kb, kb2, by rw [r6 139 (by decide) (by decide) (by decide)]; exact d5.1.2.2⟩, ?_, by rw [r6 139 (by decide) (by decide) (by decide)]; exact d5.2.2.1, by rw [r6 139 (by decide) (by decide) (by decide), t0 11 (by decide) (by decide)]; exact d5.2.2.2.1, by rw [r6 139 (by decide) (by decide) (by decide), t0 11 (by decide) (by decide), t0 12 (by decide) (by decide)]; exact d5.2.2.2.2⟩, fun y => ?_⟩
            · rw [r6 147 (by decide) (by decide) (by decide), r6 148 (by decide) (by decide) (by decide), r6 154 (by decide) (by decide) (by decide), r6 157 (by decide) (by decide) (by decide), t0 0 (by decide) (by decide), t0 1 (by decide) (by decide), t0 2 (by decide) (by decide), t0 3 (by decide) (by decide), s04]
              exact ⟨d5.2.1.1, d5.2.1.2.1, d5.2.1.2.2.1, d5.2.1.2.2.2.1, by rw [← hm6, jup_s]⟩
            · rw [t0 11 (by decide) (by decide)] at y
              have N := a5.2.2.2.2 y
              exact ⟨rNa_V (rNa_cg N.1 (by rw [r6 139 (by decide) (by decide) (by decide)]) (fun q hq => r6 q (by omega) (by omega) (by omega))) (t0 10 (by decide) (by decide)) (tp 30 (by decide) (by decide) (by decide)) (tp 31 (by decide) (by decide) (by decide)), rRw_V (rRw_cg N.2 (fun q hq => r6 q (by omega) (by omega) (by omega))) (fun j j0 j1 => t0 j (by omega) (by omega)) (fun p p0 p1 => tp p (by omega) (by omega) (by omega))⟩
          · -- rights
            have f162 : m6 162 k = m5 162 k := by rw [r6 162 (by decide) (by decide) (by decide)]
            have f165 : m6 165 k = m5 165 k := by rw [r6 165 (by decide) (by decide) (by decide)]
            have q33 := s33 (V 0 4)
            rw [if_pos rfl] at q33
            -- what the cond left alone
            have L5 : ∀ i, 0 ≤ i → i < lt → ltI k (m 162 k - 500 * k) m i → ltI k (m5 162 k - 500 * k) m6 i ∧ (∀ x, litB (vw m6 k 0 0) x i = litB (vw m k 0 0) x i) ∧ vw m6 k 0 0 29 i = vw m k 0 0 29 i := by
              intro i i0 i1 g
              have g2 := lt_fr (m' := m6) i0 (by omega) g (by omega) (fun q a b => by rw [r6 q (by omega) (by omega) (by omega), a1 q _ (Or.inr (Or.inr (Or.inr (Or.inr ⟨a, b, Or.inl (by omega)⟩))))]) (fun q j hq j0 j1 => by rw [r6 q (by omega) (by omega) (by omega), a1 q _ (Or.inr (Or.inr (Or.inr (Or.inl ⟨hq, Or.inl (by omega)⟩))))])
              refine ⟨⟨g2.1.1, ?_⟩, g2.2⟩
              have := g2.1.2
              omega
            have hd5 : ∀ x a j, 0 ≤ a → a + ((j : Nat) : Int) ≤ lt → (∀ i, a ≤ i → i < a + j → ltI k (m 162 k - 500 * k) m i) → hd (vw m6 k 0 0) x a j = hd (vw m k 0 0) x a j := fun x a j a0 a1 g => hd_cg j (fun i i0 i1 => ⟨(L5 i (by omega) (by omega) (g i i0 i1)).2.1 x, (L5 i (by omega) (by omega) (g i i0 i1)).2.2⟩)
            -- the cond's own rows
            have e6 : ∀ p, 22 ≤ p → p < 30 → vw m6 k 0 0 p = vw m5 k 0 0 p := fun p a b => by
              have c : p = 22 ∨ p = 23 ∨ p = 24 ∨ p = 25 ∨ p = 26 ∨ p = 27 ∨ p = 28 ∨ p = 29 := by omega
              have cc : ∀ q, q ≠ 160 → q ≠ 161 → q ≠ 159 → m6 q = m5 q := r6
              rcases c with rfl | rfl | rfl | rfl | rfl | rfl | rfl | rfl
              · show cut 500 (fun i => m6 163 (500 * k + i)) = cut 500 (fun i => m5 163 (500 * k + i))
                rw [cc 163 (by decide) (by decide) (by decide)]
              · show cut 500 (fun i => m6 164 (500 * k + i)) = cut 500 (fun i => m5 164 (500 * k + i))
                rw [cc 164 (by decide) (by decide) (by decide)]
              · show cut 200 (fun i => m6 166 (200 * k + i)) = cut 200 (fun i => m5 166 (200 * k + i))
                rw [cc 166 (by decide) (by decide) (by decide)]
              · show cut 200 (fun i => m6 167 (200 * k + i)) = cut 200 (fun i => m5 167 (200 * k + i))
                rw [cc 167 (by decide) (by decide) (by decide)]
              · show cut 200 (fun i => m6 168 (200 * k + i) - 500 * k) = cut 200 (fun i => m5 168 (200 * k + i) - 500 * k)
                rw [cc 168 (by decide) (by decide) (by decide)]
              · show cut 200 (fun i => m6 169 (200 * k + i) - 500 * k) = cut 200 (fun i => m5 169 (200 * k + i) - 500 * k)
                rw [cc 169 (by decide) (by decide) (by decide)]
              · show cut 200 (fun i => m6 170 (200 * k + i) - 500 * k) = cut 200 (fun i => m5 170 (200 * k + i) - 500 * k)
                rw [cc 170 (by decide) (by decide) (by decide)]
              · show cut 200 (fun i => m6 171 (200 * k + i)) = cut 200 (fun i => m5 171 (200 * k + i))
                rw [cc 171 (by decide) (by decide) (by decide)]
            have k6 : ∀ i, 0 ≤ i → i < 200 → ltI k (m5 162 k - 500 * k) m5 i → ltI k (m5 162 k - 500 * k) m6 i ∧ (∀ x, litB (vw m6 k 0 0) x i = litB (vw m5 k 0 0) x i) ∧ vw m6 k 0 0 29 i = vw m5 k 0 0 29 i := fun i i0 i1 g => lt_fr i0 i1 g (by omega) (fun q a b => by rw [r6 q (by omega) (by omega) (by omega)]) (fun q j hq _ _ => by rw [r6 q (by omega) (by omega) (by omega)])
            have n20 : vw m6 k 0 0 20 (V 0 4) = lt := by
              have e : vw m6 k 0 0 20 (V 0 4) = m6 160 (8 * k + V 0 4) - 200 * k := cut_in (f := fun i => m6 160 (8 * k + i) - 200 * k) (by omega) (by omega)
              rw [e, ← hm6, jup_ne (by decide), jup_ne (by decide), jup_s, q5]
              omega
            have n21 : vw m6 k 0 0 21 (V 0 4) = m5 165 k - 200 * k := by
              have e : vw m6 k 0 0 21 (V 0 4) = m6 161 (8 * k + V 0 4) - 200 * k := cut_in (f := fun i => m6 161 (8 * k + i) - 200 * k) (by omega) (by omega)
              rw [e, ← hm6, jup_ne (by decide), jup_s]
            have o20 : ∀ r, 0 ≤ r → r < V 0 4 → vw m6 k 0 0 20 r = vw m k 0 0 20 r ∧ vw m6 k 0 0 21 r = vw m k 0 0 21 r := by
              intro r r0 r1
              have a := cut_in (n := 8) (f := fun i => m6 160 (8 * k + i) - 200 * k) r0 (by omega)
              have b := cut_in (n := 8) (f := fun i => m 160 (8 * k + i) - 200 * k) r0 (by omega)
              have d := cut_in (n := 8) (f := fun i => m6 161 (8 * k + i) - 200 * k) r0 (by omega)
              have e := cut_in (n := 8) (f := fun i => m 161 (8 * k + i) - 200 * k) r0 (by omega)
              have g1 : m6 160 (8 * k + r) = m 160 (8 * k + r) := by
                rw [← hm6, jup_ne (by decide), jup_ne (by decide), jup_j (by omega)]
                exact a1 160 _ (Or.inl (by omega))
              have g2 : m6 161 (8 * k + r) = m 161 (8 * k + r) := by
                rw [← hm6, jup_ne (by decide), jup_j (by omega), jup_ne (by decide)]
                exact a1 161 _ (Or.inl (by omega))
              refine ⟨?_, ?_⟩
              · show cut 8 (fun i => m6 160 (8 * k + i) - 200 * k) r = cut 8 (fun i => m 160 (8 * k + i) - 200 * k) r
                rw [a, b, g1]
              · show cut 8 (fun i => m6 161 (8 * k + i) - 200 * k) r = cut 8 (fun i => m 161 (8 * k + i) - 200 * k) r
                rw [d, e, g2]
            have sr : ∀ r, 0 ≤ r → r ≤ V 0 4 → rgS V' r = rgS V r := fun r a b => by
              unfold rgS
              split
              · rfl
              · rw [s33, if_neg (by omega)]
            have v16 : V' 0 16 = VF 0 16 := s0 16 (by decide)
            refine ⟨by rw [f162, v16]; exact q3, by rw [f162, f165]; omega, ?_, fun r r0 r1 => ?_⟩
            · rw [s04, v16]
              unfold rgS
              rw [if_neg (by omega), show V 0 4 + 1 - 1 = V 0 4 by omega]
              exact q33
            · rw [s04] at r1
              by_cases er : r = V 0 4
              · subst er
                unfold rg1
                rw [sr _ r0 (Int.le_refl _), R3, q33, v16, n20, n21, f162, f165, sp 32 (by decide) (by decide)]
                refine ⟨⟨by omega, by omega, Int.le_refl _⟩, q2, by omega, fun i i0 i1 => (k6 i (by omega) (by omega) (q6 i i0 i1)).1, fun x => ?_⟩
                have hh : heldB (vw m6 k 0 0) x lt (m5 165 k - 200 * k) = heldB (vw m5 k 0 0) x lt (m5 165 k - 200 * k) := by
                  unfold heldB
                  rw [hd_cg (W := vw m5 k 0 0) _ (fun i i0 i1 => ⟨(k6 i (by omega) (by omega) (q6 i i0 (by omega))).2.1 x, (k6 i (by omega) (by omega) (q6 i i0 (by omega))).2.2⟩)]
                rw [hh]
                exact q7 x
              · obtain ⟨g1, g2, g3, g4, g5⟩ := R4 r r0 (by omega)
                have o := o20 r r0 (by omega)
                have e33 : V' 33 r = V 33 r := by rw [s33, if_neg er]
                unfold rg1
                rw [sr r r0 (by omega), e33, o.1, o.2, f162, f165, v16]
                refine ⟨⟨g1.1, g1.2.1, by omega⟩, ?_, by omega, fun i i0 i1 => (L5 i (by omega) (by omega) (g4 i i0 i1)).1, fun x => ?_⟩
                · obtain ⟨y0, y1, y2, y3⟩ := g2
                  refine ⟨y0, y1, y2, fun x j j0 j1 => ?_⟩
                  rw [cEv_cg (g := V 32) j (fun i i0 i1 => t32 i (by omega)), t32 _ (by omega)]
                  exact y3 x j j0 j1
                · have hh : heldB (vw m6 k 0 0) x (vw m k 0 0 20 r) (vw m k 0 0 21 r) = heldB (vw m k 0 0) x (vw m k 0 0 20 r) (vw m k 0 0 21 r) := by
                    unfold heldB
                    rw [hd5 x _ _ g3.1 (by omega) (fun i i0 i1 => g4 i i0 (by omega))]
                  rw [hh, cEv_cg (g := V 32) _ (fun i i0 i1 => t32 i (by omega))]
                  exact g5 x
      · rw [V0 16 (by decide)]; omega
      · rw [V0 16 (by decide), Vp 32 (by decide)]
        exact ⟨by omega, Int.le_refl _, by omega, fun x j j0 j1 => by omega⟩
      · rw [e162', V0 16 (by decide)]; exact R1
      · rw [e162', e165']; omega
      · rw [← hm3, jup_s]; omega
      · rw [e165']; exact fun i i0 i1 => by omega
      · rw [e165']
        exact ⟨fun _ => rfl, fun w => absurd rfl w, fun w => by simp at w, fun w => by simp at w, fun w => by simp at w⟩
      · rw [e165']; omega
      · rw [e165']
        intro x
        have z : cS (x0R K S V P).2.2 x (V 0 16) = [] := by
          unfold cS
          rw [V0 16 (by decide), show (V 0 16 - V 0 16).toNat = 0 by omega]
          rfl
        rw [z]; rfl
    · have ne : (flF S 1 (stq K S 4 P)).2.1 ≠ 0 := flF_ne (by decide)
      have ef : stq K S 13 (stq K S 4 P) = flF S 1 (stq K S 4 P) := by
        unfold flF
        rw [if_neg (fun w => w z1)]
        generalize stq K S 4 P = P1 at *
        unfold stq
        rw [if_neg (fun w => w z1), if_pos k13]
      exact c_wrongR x1 n1 z1 (by decide) (fun m2 x2 => ⟨Or.inl rfl, bad m2 x2.1 x2.2.1 (by rw [e0, ef]; exact ne) (by rw [e0, ef]; exact x2.2.2.1)⟩)
  · have rm : rmF S (V 0 4) 8 P = flF S 2 P := by unfold rmF; rw [if_neg (by omega)]
    have ne : (flF S 2 P).2.1 ≠ 0 := flF_ne (by decide)
    have e0 : (x0R K S V P).1 = flF S 2 P := by unfold x0R; rw [rm, stq_f ne, stq_f ne]
    have ex : xfR K S W V P = x0R K S V P := xlp_f (by rw [e0]; exact ne)
    exact c_wrongR h hn h0 (by decide) (fun m1 x1 => ⟨Or.inl rfl, hQ0 m1 (rdC_H x1.1) x1.2.1 (by rw [ex, e0]; exact ne) (by rw [ex, e0]; exact x1.2.2.1)⟩)

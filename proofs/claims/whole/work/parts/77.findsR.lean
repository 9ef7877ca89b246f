/-! the reference's search -/
def isB (R : Int → Int → Prop) (T : Int) (m : jM) : Prop := ∀ (m1 : jM) (x y : Int) (Q : Int → jM → Prop), (∀ p, p ≠ 210 → p ≠ 211 → p ≠ 212 → p ≠ 213 → m1 p = m p) → 0 ≤ x → x < T → 0 ≤ y → y < T → (R x y → Q 1 m1) → (¬ R x y → Q 0 m1) → ML iX11_isBehind [(2, 139), (0, x), (0, y)] m1 Q
theorem c_finds {m : jM} {Q : Int → jM → Prop} {T x : Int} {R : Int → Int → Prop} {M : Int → Int} {X : Int → Prop} (T0 : 0 ≤ T) (T18 : T ≤ 18) (hT : m 139 89 = T) (hB : isB R T m) (hM : mtch T R M) (hf : ∀ y, 0 ≤ y → y < T → m 210 y = M y) (hX : ∀ z, X z → 0 ≤ z ∧ z < T) (hXM : ∀ z, 0 ≤ z → z < T → (X z ↔ cvr T M z)) (x0 : 0 ≤ x) (x1 : x < T) (hnx : ¬ X x) (hno : ∀ m', (∀ p, p ≠ 210 → p ≠ 211 → p ≠ 212 → p ≠ 213 → m' p = m p) → (∀ y, 0 ≤ y → y < T → m' 210 y = M y) → ¬ cov T R (fun z => X z ∨ z = x) → Q 0 m') (hQ : ∀ m' M', (∀ p, p ≠ 210 → p ≠ 211 → p ≠ 212 → p ≠ 213 → m' p = m p) → mtch T R M' → (∀ y, 0 ≤ y → y < T → m' 210 y = M' y) → (∀ z, 0 ≤ z → z < T → (X z ∨ z = x ↔ cvr T M' z)) → cov T R (fun z => X z ∨ z = x) → Q 1 m') : ML iX11_finds [(2, 139), (0, x)] m Q := by
  have ux : ¬ cvr T M x := fun h => hnx ((hXM x x0 x1).mpr h)
  refine sX11_finds ?_
  let D : Int → jM → (Int → Prop) → Prop := fun dp m1 F => (∀ p, p ≠ 211 → p ≠ 212 → p ≠ 213 → m1 p = m p) ∧ (-1 ≤ dp ∧ dp ≤ 17 ∧ (0 ≤ dp → m1 212 0 = x) ∧ (dp = -1 → F x)) ∧ (∀ d, 0 ≤ d → d ≤ dp → 0 ≤ m1 212 d ∧ m1 212 d < T) ∧ (∀ d, 0 ≤ d → d < dp → 0 ≤ m1 213 d ∧ m1 213 d < T ∧ m1 211 (m1 213 d) ≠ 0 ∧ M (m1 213 d) = m1 212 (d + 1) ∧ R (m1 212 d) (m1 213 d)) ∧ (0 ≤ dp → -1 ≤ m1 213 dp ∧ m1 213 dp < T) ∧ (∀ d d', 0 ≤ d → d < d' → d' < dp → m1 213 d ≠ m1 213 d') ∧ (∀ y, 0 ≤ y → y < T → m1 211 y ≠ 0 → M y ≠ -1 ∧ (F (M y) ∨ ∃ d, 0 < d ∧ d ≤ dp ∧ m1 212 d = M y)) ∧ (∀ l, F l → (0 ≤ l ∧ l < T ∧ (l = x ∨ cvr T M l)) ∧ ∀ y, 0 ≤ y → y < T → R l y → m1 211 y ≠ 0) ∧ ∀ d, 0 ≤ d → d ≤ dp → ∀ y, 0 ≤ y → y ≤ m1 213 d → y < T → R (m1 212 d) y → m1 211 y ≠ 0
  have hD : ∀ dp m1 F, D dp m1 F ↔ ((∀ p, p ≠ 211 → p ≠ 212 → p ≠ 213 → m1 p = m p) ∧ (-1 ≤ dp ∧ dp ≤ 17 ∧ (0 ≤ dp → m1 212 0 = x) ∧ (dp = -1 → F x)) ∧ (∀ d, 0 ≤ d → d ≤ dp → 0 ≤ m1 212 d ∧ m1 212 d < T) ∧ (∀ d, 0 ≤ d → d < dp → 0 ≤ m1 213 d ∧ m1 213 d < T ∧ m1 211 (m1 213 d) ≠ 0 ∧ M (m1 213 d) = m1 212 (d + 1) ∧ R (m1 212 d) (m1 213 d)) ∧ (0 ≤ dp → -1 ≤ m1 213 dp ∧ m1 213 dp < T) ∧ (∀ d d', 0 ≤ d → d < d' → d' < dp → m1 213 d ≠ m1 213 d') ∧ (∀ y, 0 ≤ y → y < T → m1 211 y ≠ 0 → M y ≠ -1 ∧ (F (M y) ∨ ∃ d, 0 < d ∧ d ≤ dp ∧ m1 212 d = M y)) ∧ (∀ l, F l → (0 ≤ l ∧ l < T ∧ (l = x ∨ cvr T M l)) ∧ ∀ y, 0 ≤ y → y < T → R l y → m1 211 y ≠ 0) ∧ ∀ d, 0 ≤ d → d ≤ dp → ∀ y, 0 ≤ y → y ≤ m1 213 d → y < T → R (m1 212 d) y → m1 211 y ≠ 0) := fun _ _ _ => Iff.rfl
  let us : jM → Int := fun m1 => sumN (fun y => if m1 211 y = 0 then 1 else 0) T.toNat
  let lv : Int → jM → Int := fun dp m1 => sumN (fun d => T + 1 - m1 213 d) (dp + 1).toNat
  have husN : ∀ m1, 0 ≤ us m1 := fun m1 => by
    have := sumN_ge (f := fun y => if m1 211 y = 0 then 1 else 0) (L := 0) T.toNat (fun i _ _ => by split <;> omega)
    show 0 ≤ sumN (fun y => if m1 211 y = 0 then 1 else 0) T.toNat
    omega
  -- the end: all change along the trail
  have swap : ∀ (dp : Int) (m1 : jM), 0 ≤ dp → dp ≤ 17 → (∀ p, p ≠ 211 → p ≠ 212 → p ≠ 213 → m1 p = m p) → m1 212 0 = x → (∀ d, 0 ≤ d → d ≤ dp → 0 ≤ m1 212 d ∧ m1 212 d < T) → (∀ d, 0 ≤ d → d < dp → 0 ≤ m1 213 d ∧ m1 213 d < T ∧ m1 211 (m1 213 d) ≠ 0 ∧ M (m1 213 d) = m1 212 (d + 1) ∧ R (m1 212 d) (m1 213 d)) → (∀ d d', 0 ≤ d → d < d' → d' < dp → m1 213 d ≠ m1 213 d') → M (m1 213 dp) = -1 → 0 ≤ m1 213 dp → m1 213 dp < T → R (m1 212 dp) (m1 213 dp) → (∀ d, 0 ≤ d → d < dp → m1 213 d ≠ m1 213 dp) → ∀ m2 : jM, (∀ p, p ≠ 211 → m2 p = m1 p) → GL iX11_finds m2 119 [(2, 139), (9, 0), (9, 0), (9, 0), (0, dp)] [] Q := by
    intro dp m1 d0 dhi f1 e00 tr st dis hMy hy0 yT hRy hdy m2 f2
    have e0 : 0 ≤ dp → m1 212 0 = x := fun _ => e00
    have disA : ∀ d d', 0 ≤ d → d < d' → d' ≤ dp → m1 213 d ≠ m1 213 d' := by
      intro d d' h0 h1 h2
      by_cases e : d' = dp
      · rw [e]; exact hdy d h0 (by omega)
      · exact dis d d' h0 h1 (by omega)
    have tdr : ∀ d, 0 ≤ d → d ≤ dp → 0 ≤ m1 213 d ∧ m1 213 d < T ∧ R (m1 212 d) (m1 213 d) := by
      intro d h0 h1
      by_cases e : d = dp
      · rw [e]; exact ⟨hy0, yT, hRy⟩
      · have := st d h0 (by omega)
        exact ⟨this.1, this.2.1, this.2.2.2.2⟩
    have trd : ∀ d d', 0 ≤ d → d < d' → d' ≤ dp → m1 212 d ≠ m1 212 d' := by
      intro d d' h0 h1 h2 e
      have s2 := st (d' - 1) (by omega) (by omega)
      rw [show d' - 1 + 1 = d' by omega] at s2
      have tn := tr d' (by omega) h2
      by_cases ed : d = 0
      · rw [ed, e0 d0] at e
        exact ux ⟨_, s2.1, s2.2.1, by rw [s2.2.2.2.1, e]⟩
      · have s1 := st (d - 1) (by omega) (by omega)
        rw [show d - 1 + 1 = d by omega] at s1
        have := hM.2 _ _ s1.1 s1.2.1 s2.1 s2.2.1 (by rw [s1.2.2.2.1, e]; omega) (by rw [s1.2.2.2.1, s2.2.2.2.1, e])
        exact dis (d - 1) (d' - 1) (by omega) (by omega) (by omega) this
    refine ldn (I := fun d m3 => -1 ≤ d ∧ d ≤ dp ∧ (∀ p, p ≠ 210 → p ≠ 211 → m3 p = m1 p) ∧ (∀ z, (∃ d', d < d' ∧ d' ≤ dp ∧ 0 ≤ d' ∧ z = m1 213 d' ∧ m3 210 z = m1 212 d') ∨ ((∀ d', d < d' → d' ≤ dp → 0 ≤ d' → z ≠ m1 213 d') ∧ m3 210 z = m1 210 z))) (G := fun d m3 => GL iX11_finds m3 119 [(2, 139), (9, 0), (9, 0), (9, 0), (0, d)] [] Q) ?_ ?_ dp m2 ⟨by omega, Int.le_refl _, fun p h210 h211 => f2 p h211, fun z => Or.inr ⟨fun d' h1 h2 _ => by omega, by rw [f2 210 (by decide)]⟩⟩
    · rintro d m3 h0 ⟨-, h1, f3, h3⟩ K
      have t := tdr d h0 h1
      have r := tr d h0 h1
      refine sX11_finds_119 ?_
      rw [f3 213 (by decide) (by decide), f3 212 (by decide) (by decide), jw_id (x := d + -1) (by omega) (by omega), show d + -1 = d - 1 by omega]
      refine ⟨fun z => absurd z (by omega), fun _ => ⟨h0, by omega, h0, by omega, t.1, by omega, K _ ⟨by omega, by omega, fun p h210 h211 => by rw [jup_ne h210]; exact f3 p h210 h211, fun z => ?_⟩⟩⟩
      rw [jup_self]
      by_cases e : z = m1 213 d
      · rw [if_pos e]
        exact Or.inl ⟨d, by omega, h1, h0, e, rfl⟩
      · rw [if_neg e]
        rcases h3 z with ⟨d', a, b, c, e1, e2⟩ | ⟨a, b⟩
        · exact Or.inl ⟨d', by omega, b, c, e1, e2⟩
        · refine Or.inr ⟨fun d' a1 a2 a3 => ?_, b⟩
          by_cases e3 : d' = d
          · rw [e3]; exact e
          · exact a d' (by omega) a2 a3
    · rintro d m3 h0 ⟨hlo, h1, f3, h3⟩
      obtain rfl : d = -1 := by omega
      refine sX11_finds_119 ⟨fun _ => ?_, fun z => absurd (by decide) z⟩
      have e210 : ∀ z, 0 ≤ z → z < T → m1 210 z = M z := fun z z0 z1 => by rw [f1 210 (by decide) (by decide) (by decide)]; exact hf z z0 z1
      have cv : ∀ z, 0 ≤ z → z < T → (X z ∨ z = x ↔ cvr T (m3 210) z) := by
        intro z z0 z1
        rw [hXM z z0 z1]
        constructor
        · intro h
          -- z stands on the trail, or keeps what it had
          have tz : (∃ d', 0 ≤ d' ∧ d' ≤ dp ∧ m1 212 d' = z) ∨ ∃ w, 0 ≤ w ∧ w < T ∧ M w = z ∧ ∀ d', -1 < d' → d' ≤ dp → 0 ≤ d' → w ≠ m1 213 d' := by
            rcases h with ⟨w, w0, w1, e⟩ | e
            · by_cases hw : ∃ d', 0 ≤ d' ∧ d' ≤ dp ∧ w = m1 213 d'
              · obtain ⟨d', a, b, c⟩ := hw
                by_cases ed : d' = dp
                · rw [c, ed, hMy] at e
                  omega
                · have := st d' a (by omega)
                  exact Or.inl ⟨d' + 1, by omega, by omega, by rw [← this.2.2.2.1, ← c, e]⟩
              · exact Or.inr ⟨w, w0, w1, e, fun d' a b c e2 => hw ⟨d', c, b, e2⟩⟩
            · exact Or.inl ⟨0, by decide, d0, by rw [e0 d0, e]⟩
          rcases tz with ⟨d', a, b, c⟩ | ⟨w, w0, w1, e, hw⟩
          · have t := tdr d' a b
            refine ⟨m1 213 d', t.1, t.2.1, ?_⟩
            rcases h3 (m1 213 d') with ⟨d2, a2, b2, c2, e1, e2⟩ | ⟨a2, -⟩
            · have : d2 = d' := by
                apply Classical.byContradiction
                intro ne
                rcases Int.lt_or_gt_of_ne ne with lt | lt
                · exact disA d2 d' c2 lt b e1.symm
                · exact disA d' d2 a lt b2 e1
              rw [e2, this, c]
            · exact absurd rfl (a2 d' (by omega) b a)
          · refine ⟨w, w0, w1, ?_⟩
            rcases h3 w with ⟨d2, a2, b2, c2, e1, e2⟩ | ⟨-, b2⟩
            · exact absurd e1 (hw d2 a2 b2 c2)
            · rw [b2, e210 w w0 w1, e]
        · rintro ⟨w, w0, w1, e⟩
          rcases h3 w with ⟨d2, a2, b2, c2, e1, e2⟩ | ⟨-, b2⟩
          · rw [e2] at e
            by_cases ed : d2 = 0
            · right
              rw [ed, e0 d0] at e
              exact e.symm
            · left
              have := st (d2 - 1) (by omega) (by omega)
              rw [show d2 - 1 + 1 = d2 by omega] at this
              exact ⟨_, this.1, this.2.1, by rw [this.2.2.2.1, e]⟩
          · left
            rw [b2, e210 w w0 w1] at e
            exact ⟨w, w0, w1, e⟩
      have mt : mtch T R (m3 210) := by
        refine ⟨fun z z0 z1 => ?_, fun z z' z0 z1 z0' z1' hne he => ?_⟩
        · rcases h3 z with ⟨d2, a2, b2, c2, e1, e2⟩ | ⟨-, b2⟩
          · have t := tdr d2 c2 b2
            have r := tr d2 c2 b2
            rw [e2, e1]
            exact Or.inr ⟨r.1, r.2, t.2.2⟩
          · rw [b2, e210 z z0 z1]
            exact hM.1 z z0 z1
        · have off : ∀ w d2, 0 ≤ w → w < T → 0 ≤ d2 → d2 ≤ dp → (∀ d', -1 < d' → d' ≤ dp → 0 ≤ d' → w ≠ m1 213 d') → M w ≠ m1 212 d2 := by
            intro w d2 w0 w1 c2 b2 hw e
            by_cases ed : d2 = 0
            · rw [ed, e0 d0] at e
              exact ux ⟨w, w0, w1, e⟩
            · have := st (d2 - 1) (by omega) (by omega)
              rw [show d2 - 1 + 1 = d2 by omega] at this
              have r := tr d2 c2 b2
              have := hM.2 w _ w0 w1 this.1 this.2.1 (by omega) (by rw [this.2.2.2.1, e])
              exact hw (d2 - 1) (by omega) (by omega) (by omega) this
          rcases h3 z with ⟨d2, a2, b2, c2, e1, e2⟩ | ⟨a2, b2⟩ <;> rcases h3 z' with ⟨d3, a3, b3, c3, e3, e4⟩ | ⟨a3, b3⟩
          · have : d2 = d3 := by
              apply Classical.byContradiction
              intro ne
              rw [e2, e4] at he
              rcases Int.lt_or_gt_of_ne ne with lt | lt
              · exact trd d2 d3 c2 lt b3 he
              · exact trd d3 d2 c3 lt b2 he.symm
            rw [e1, e3, this]
          · rw [e2, b3, e210 z' z0' z1'] at he
            exact absurd he.symm (off z' d2 z0' z1' c2 b2 a3)
          · rw [e4, b2, e210 z z0 z1] at he
            exact absurd he (off z d3 z0 z1 c3 b3 a2)
          · rw [b2, b3, e210 z z0 z1, e210 z' z0' z1'] at he
            rw [b2, e210 z z0 z1] at hne
            exact hM.2 z z' z0 z1 z0' z1' hne he
      refine hQ m3 (m3 210) (fun p h210 h211 h212 h213 => by rw [f3 p h210 h211]; exact f1 p h211 h212 h213) mt (fun y _ _ => rfl) cv ⟨m3 210, mt, fun z hz => ?_⟩
      have zr : 0 ≤ z ∧ z < T := by
        rcases hz with u | u
        · exact hX z u
        · rw [u]; exact ⟨x0, x1⟩
      exact (cv z zr.1 zr.2).mp hz
  have key : ∀ (n : Nat) (dp : Int) (m1 : jM) (F : Int → Prop), us m1 * (T + 3) + lv dp m1 < n → D dp m1 F → GL iX11_finds m1 39 [(2, 139), (9, 0), (0, dp), (9, 0), (9, 0)] [] Q := by
    intro n
    induction n with
    | zero =>
      intro dp m1 F hn hD1
      obtain ⟨f1, ⟨dlo, dhi, e0, eF⟩, tr, st, top, dis, seen, fin, hseen⟩ := (hD _ _ _).mp hD1
      have h1 := husN m1
      have h2 : 0 ≤ lv dp m1 := by
        have := sumN_ge (f := fun d => T + 1 - m1 213 d) (L := 0) (dp + 1).toNat (fun d d0 d1 => by
          by_cases e : d = dp
          · have := top (by omega); rw [e]; omega
          · have := st d d0 (by omega); omega)
        show 0 ≤ sumN (fun d => T + 1 - m1 213 d) (dp + 1).toNat
        omega
      have h3 : 0 ≤ us m1 * (T + 3) := Int.mul_nonneg h1 (by omega)
      omega
    | succ n ih =>
      intro dp m1 F hn hD1
      obtain ⟨f1, ⟨dlo, dhi, e0, eF⟩, tr, st, top, dis, seen, fin, hseen⟩ := (hD _ _ _).mp hD1
      have eT : m1 139 89 = T := by rw [f1 139 (by decide) (by decide) (by decide)]; exact hT
      have e210 : ∀ z, 0 ≤ z → z < T → m1 210 z = M z := fun z z0 z1 => by rw [f1 210 (by decide) (by decide) (by decide)]; exact hf z z0 z1
      refine sX11_finds_39 ⟨fun z => ?_, fun z => ?_⟩
      · -- all is looked at
        have hFx := eF (by omega)
        refine hno m1 (fun p h210 h211 h212 h213 => f1 p h211 h212 h213) e210 ?_
        obtain ⟨N, rfl⟩ : ∃ N : Nat, T = N := ⟨T.toNat, by omega⟩
        refine hall (L := F) hM hFx (fun l hl => ?_) (fun l y hl y0 y1 hR => ?_)
        · have := (fin l hl).1
          refine ⟨this.1, this.2.1, ?_⟩
          rcases this.2.2 with u | u
          · exact Or.inl u
          · exact Or.inr ((hXM l this.1 this.2.1).mpr u)
        · have hs := (fin l hl).2 y y0 y1 hR
          have := seen y y0 y1 hs
          refine ⟨this.1, ?_, fun w => ux ⟨y, y0, y1, w⟩⟩
          rcases this.2 with u | ⟨d, d0, d1, -⟩
          · exact u
          · omega
      · have tp := top (by omega)
        have trp := tr dp (by omega) (Int.le_refl _)
        have lvS : ∀ m2 : jM, (∀ d, d ≠ dp → m2 213 d = m1 213 d) → lv dp m2 = lv dp m1 - m2 213 dp + m1 213 dp := by
          intro m2 h
          have := sumN_up (f := fun d => T + 1 - m1 213 d) (g := fun d => T + 1 - m2 213 d) (j := dp) (dp + 1).toNat (by omega) (by omega) (fun i _ _ hi => by rw [h i hi])
          show sumN (fun d => T + 1 - m2 213 d) (dp + 1).toNat = sumN (fun d => T + 1 - m1 213 d) (dp + 1).toNat - m2 213 dp + m1 213 dp
          rw [this]
          omega
        rw [eT, jw_id (x := m1 213 dp + 1) (by omega) (by omega), jw_id (x := dp + 1) (by omega) (by omega), jw_id (x := dp + -1) (by omega) (by omega), show dp + -1 = dp - 1 by omega]
        generalize hy : m1 213 dp + 1 = y
        generalize hm2 : jup m1 213 dp y = m2
        have v213 : ∀ d, m2 213 d = if d = dp then y else m1 213 d := fun d => by rw [← hm2, jup_self]
        have o2 : ∀ p, p ≠ 213 → m2 p = m1 p := fun p hp => by rw [← hm2, jup_ne hp]
        have us2 : us m2 = us m1 := by
          show sumN (fun y => if m2 211 y = 0 then 1 else 0) T.toNat = sumN (fun y => if m1 211 y = 0 then 1 else 0) T.toNat
          rw [o2 211 (by decide)]
        have lv2 : lv dp m2 = lv dp m1 - 1 := by
          rw [lvS m2 (fun d hd => by rw [v213, if_neg hd]), v213, if_pos rfl]
          omega
        -- the next one is tried
        have again : y < T → (R (m1 212 dp) y → m1 211 y ≠ 0) → GL iX11_finds m2 39 [(2, 139), (9, 0), (0, dp), (9, 0), (9, 0)] [] Q := by
          intro yT hs
          refine ih dp m2 F (by rw [us2, lv2]; omega) ((hD _ _ _).mpr ⟨fun p a b c => by rw [o2 p c]; exact f1 p a b c, ⟨dlo, dhi, fun h => by rw [o2 212 (by decide)]; exact e0 h, eF⟩, fun d d0 d1 => by rw [o2 212 (by decide)]; exact tr d d0 d1, fun d d0 d1 => by rw [v213, if_neg (by omega), o2 211 (by decide), o2 212 (by decide)]; exact st d d0 d1, fun _ => by rw [v213, if_pos rfl]; omega, fun d d' d0 d1 d2 => by rw [v213, v213, if_neg (by omega), if_neg (by omega)]; exact dis d d' d0 d1 d2, fun w w0 w1 hw => by rw [o2 211 (by decide)] at hw; rw [o2 212 (by decide)]; exact seen w w0 w1 hw, fun l hl => by rw [o2 211 (by decide)]; exact fin l hl, fun d d0 d1 w w0 w1 wT hR => ?_⟩)
          rw [o2 212 (by decide)] at hR
          rw [o2 211 (by decide)]
          rw [v213] at w1
          by_cases e : d = dp
          · rw [if_pos e] at w1
            rw [e] at hR
            by_cases e2 : w = y
            · rw [e2] at hR ⊢; exact hs hR
            · exact hseen dp (by omega) (Int.le_refl _) w w0 (by omega) wT hR
          · rw [if_neg e] at w1
            exact hseen d d0 d1 w w0 w1 wT hR
        refine ⟨by omega, by omega, by omega, by omega, by omega, by omega, fun yT => ⟨by omega, by omega, fun hs => again yT (fun _ => hs), fun hs => ⟨by omega, by omega, ?_⟩⟩, fun yT => ?_⟩
        · have hs0 : m1 211 y = 0 := Classical.byContradiction hs
          rw [show m1 212 dp = m2 212 dp by rw [o2 212 (by decide)]]
          refine hB m2 _ y _ (fun p a b c d => by rw [o2 p d]; exact f1 p b c d) (by rw [o2 212 (by decide)]; exact trp.1) (by rw [o2 212 (by decide)]; exact trp.2) (by omega) yT (fun hR => ⟨fun _ => ⟨by omega, by omega, by omega, by omega, ?_⟩, fun w => absurd (by decide) w⟩) (fun hR => ⟨fun w => absurd rfl w, fun _ => again yT (fun w => absurd (by rw [o2 212 (by decide)]; exact w) hR)⟩)
          rw [o2 212 (by decide)] at hR
          have em : m2 210 y = M y := by rw [o2 210 (by decide)]; exact e210 y (by omega) yT
          rw [em]
          have tdn : ∀ d, 0 ≤ d → d < dp → m1 213 d ≠ y := fun d d0 d1 e => by
            have := st d d0 d1
            rw [e] at this
            exact this.2.2.1 hs0
          refine ⟨fun hm0 => ?_, fun hm0 => ?_⟩
          · -- deeper
            have my : M y ≠ -1 := by omega
            have myr : 0 ≤ M y ∧ M y < T := by
              rcases hM.1 y (by omega) yT with u | u
              · omega
              · exact ⟨u.1, u.2.1⟩
            -- how deep it can be
            have deep : dp + 1 ≤ 17 := by
              apply Classical.byContradiction
              intro w
              have hdp : dp = 17 := by omega
              have := inj_le T0 (f := fun d => if d = 18 then M y else m1 212 d) (n := 19) (fun d d0 d1 => by
                split
                · exact myr
                · exact tr d d0 (by omega)) (fun d d' d0 d1 d2 e => by
                rw [if_neg (show ¬ d = 18 by omega)] at e
                have up : ∀ d, 0 < d → d ≤ 18 → ∃ w, 0 ≤ w ∧ w < T ∧ M w = (if d = 18 then M y else m1 212 d) ∧ w = (if d = 18 then y else m1 213 (d - 1)) := by
                  intro d d0 d1
                  by_cases e : d = 18
                  · rw [if_pos e, if_pos e]; exact ⟨y, by omega, yT, rfl, rfl⟩
                  · rw [if_neg e, if_neg e]
                    have := st (d - 1) (by omega) (by omega)
                    rw [show d - 1 + 1 = d by omega] at this
                    exact ⟨_, this.1, this.2.1, this.2.2.2.1, rfl⟩
                obtain ⟨w2, b0, b1, b2, b3⟩ := up d' (by omega) (by omega)
                by_cases ed : d = 0
                · rw [ed, e0 (by omega)] at e
                  exact ux ⟨w2, b0, b1, by rw [b2, e]⟩
                · obtain ⟨w1, a0, a1, a2, a3⟩ := up d (by omega) (by omega)
                  rw [if_neg (show ¬ d = 18 by omega)] at a2 a3
                  have tn := tr d d0 (by omega)
                  have := hM.2 w1 w2 a0 a1 b0 b1 (by omega) (by rw [a2, b2, e])
                  rw [a3, b3] at this
                  by_cases e18 : d' = 18
                  · rw [if_pos e18] at this
                    exact tdn (d - 1) (by omega) (by omega) this
                  · rw [if_neg e18] at this
                    exact dis (d - 1) (d' - 1) (by omega) (by omega) (by omega) this)
              omega
            generalize hm3 : jup (jup (jup m2 211 y 1) 212 (dp + 1) (M y)) 213 (dp + 1) (-1) = m3
            have w211 : ∀ d, m3 211 d = if d = y then 1 else m1 211 d := fun d => by rw [← hm3, jup_ne (by decide), jup_ne (by decide), jup_self, o2 211 (by decide)]
            have w212 : ∀ d, m3 212 d = if d = dp + 1 then M y else m1 212 d := fun d => by rw [← hm3, jup_ne (by decide), jup_self, jup_ne (by decide), o2 212 (by decide)]
            have w213 : ∀ d, m3 213 d = if d = dp + 1 then -1 else if d = dp then y else m1 213 d := fun d => by rw [← hm3, jup_self, jup_ne (by decide), jup_ne (by decide), v213]
            have seenU : ∀ w, m1 211 w ≠ 0 → m3 211 w ≠ 0 := fun w h => by
              rw [w211]
              split
              · decide
              · exact h
            have us3 : us m3 = us m1 - 1 := by
              have := sumN_up (f := fun y => if m1 211 y = 0 then 1 else 0) (g := fun y => if m3 211 y = 0 then 1 else 0) (j := y) T.toNat (by omega) (by omega) (fun i _ _ hi => by rw [w211, if_neg hi])
              show sumN (fun y => if m3 211 y = 0 then 1 else 0) T.toNat = sumN (fun y => if m1 211 y = 0 then 1 else 0) T.toNat - 1
              rw [this]
              simp only [w211, if_true, hs0]
              rw [if_neg (by decide)]
              omega
            have lv3 : lv (dp + 1) m3 = lv dp m1 - 1 + (T + 2) := by
              show sumN (fun d => T + 1 - m3 213 d) (dp + 1 + 1).toNat = _
              rw [show (dp + 1 + 1).toNat = (dp + 1).toNat + 1 by omega]
              simp only [sumN]
              rw [show (((dp + 1).toNat : Nat) : Int) = dp + 1 by omega, w213 (dp + 1), if_pos rfl]
              have e3 : sumN (fun d => T + 1 - m3 213 d) (dp + 1).toNat = lv dp m2 := sumN_cg _ (fun i i0 i1 => by rw [w213, if_neg (by omega), v213])
              rw [e3, lv2]
              omega
            refine ⟨by omega, by omega, by omega, by omega, by omega, by omega, ih (dp + 1) m3 F ?_ ((hD (dp + 1) m3 F).mpr ⟨fun p a b c => by rw [← hm3, jup_ne c, jup_ne b, jup_ne a, o2 p c]; exact f1 p a b c, ⟨by omega, deep, fun _ => by rw [w212, if_neg (by omega)]; exact e0 (by omega), fun h => by omega⟩, fun d d0 d1 => ?_, fun d d0 d1 => ?_, fun _ => by rw [w213, if_pos rfl]; omega, fun d d' d0 d1 d2 => ?_, fun w w0 w1 hw => ?_, fun l hl => ⟨(fin l hl).1, fun w w0 w1 hR2 => seenU w ((fin l hl).2 w w0 w1 hR2)⟩, fun d d0 d1 w w0 w1 wT hR2 => ?_⟩)⟩
            · rw [us3, lv3, Int.sub_mul]
              omega
            · rw [w212]
              split
              · exact myr
              · exact tr d d0 (by omega)
            · rw [w213, if_neg (by omega), w212 d, if_neg (show ¬ d = dp + 1 by omega), w212 (d + 1)]
              by_cases e : d = dp
              · rw [if_pos e, if_pos (by omega), e]
                exact ⟨by omega, yT, by rw [w211, if_pos rfl]; decide, rfl, hR⟩
              · rw [if_neg e, if_neg (by omega)]
                have := st d d0 (by omega)
                exact ⟨this.1, this.2.1, seenU _ this.2.2.1, this.2.2.2.1, this.2.2.2.2⟩
            · rw [w213 d, w213 d', if_neg (show ¬ d = dp + 1 by omega), if_neg (show ¬ d = dp by omega), if_neg (show ¬ d' = dp + 1 by omega)]
              by_cases e : d' = dp
              · rw [if_pos e]; exact tdn d d0 (by omega)
              · rw [if_neg e]; exact dis d d' d0 d1 (by omega)
            · by_cases e : w = y
              · rw [e]
                exact ⟨my, Or.inr ⟨dp + 1, by omega, Int.le_refl _, by rw [w212, if_pos rfl]⟩⟩
              · rw [w211, if_neg e] at hw
                have := seen w w0 w1 hw
                refine ⟨this.1, ?_⟩
                rcases this.2 with u | ⟨d, a, b, c⟩
                · exact Or.inl u
                · exact Or.inr ⟨d, a, by omega, by rw [w212, if_neg (by omega)]; exact c⟩
            · rw [w212] at hR2
              rw [w213] at w1
              by_cases e : d = dp + 1
              · rw [if_pos e] at w1; omega
              · rw [if_neg e] at w1 hR2
                by_cases e2 : d = dp
                · rw [if_pos e2] at w1
                  rw [e2] at hR2
                  by_cases e3 : w = y
                  · rw [e3, w211, if_pos rfl]; decide
                  · exact seenU w (hseen dp (by omega) (Int.le_refl _) w w0 (by omega) wT hR2)
                · rw [if_neg e2] at w1
                  exact seenU w (hseen d d0 (by omega) w w0 w1 wT hR2)
          · -- free: the end
            have my : M y = -1 := by
              rcases hM.1 y (by omega) yT with u | u
              · exact u
              · omega
            exact swap dp m2 (by omega) dhi (fun p a b c => by rw [o2 p c]; exact f1 p a b c) (by rw [o2 212 (by decide)]; exact e0 (by omega)) (fun d d0 d1 => by rw [o2 212 (by decide)]; exact tr d d0 d1) (fun d d0 d1 => by rw [v213, if_neg (by omega), o2 211 (by decide), o2 212 (by decide)]; exact st d d0 d1) (fun d d' d0 d1 d2 => by rw [v213, v213, if_neg (by omega), if_neg (by omega)]; exact dis d d' d0 d1 d2) (by rw [v213, if_pos rfl]; exact my) (by rw [v213, if_pos rfl]; omega) (by rw [v213, if_pos rfl]; exact yT) (by rw [v213, if_pos rfl, o2 212 (by decide)]; exact hR) (fun d d0 d1 => by rw [v213, v213, if_neg (by omega), if_pos rfl]; exact tdn d d0 d1) _ (fun p hp => by rw [jup_ne hp])
        · -- back
          refine ih (dp - 1) m2 (fun l => F l ∨ l = m1 212 dp) ?_ ((hD (dp - 1) m2 (fun l => F l ∨ l = m1 212 dp)).mpr ⟨fun p a b c => by rw [o2 p c]; exact f1 p a b c, ⟨by omega, by omega, fun h => by rw [o2 212 (by decide)]; exact e0 (by omega), fun h => Or.inr (by rw [show dp = 0 by omega, e0 (by omega)])⟩, fun d d0 d1 => by rw [o2 212 (by decide)]; exact tr d d0 (by omega), fun d d0 d1 => by rw [v213, if_neg (by omega), o2 211 (by decide), o2 212 (by decide)]; exact st d d0 (by omega), fun h => ?_, fun d d' d0 d1 d2 => by rw [v213, v213, if_neg (by omega), if_neg (by omega)]; exact dis d d' d0 d1 (by omega), fun w w0 w1 hw => ?_, fun l hl => ?_, fun d d0 d1 w w0 w1 wT hR => ?_⟩)
          · rw [us2]
            have e3 : lv dp m1 = lv (dp - 1) m2 + (T + 1 - m1 213 dp) := by
              show sumN (fun d => T + 1 - m1 213 d) (dp + 1).toNat = sumN (fun d => T + 1 - m2 213 d) (dp - 1 + 1).toNat + (T + 1 - m1 213 dp)
              rw [show (dp + 1).toNat = (dp - 1 + 1).toNat + 1 by omega]
              simp only [sumN]
              rw [show (((dp - 1 + 1).toNat : Nat) : Int) = dp by omega]
              congr 1
              exact sumN_cg _ (fun i i0 i1 => by rw [v213, if_neg (by omega)])
            omega
          · rw [v213, if_neg (by omega)]
            have := st (dp - 1) (by omega) (by omega)
            omega
          · rw [o2 211 (by decide)] at hw
            have := seen w w0 w1 hw
            refine ⟨this.1, ?_⟩
            rcases this.2 with u | ⟨d, a, b, c⟩
            · exact Or.inl (Or.inl u)
            · by_cases e : d = dp
              · exact Or.inl (Or.inr (by rw [← c, e]))
              · exact Or.inr ⟨d, a, by omega, by rw [o2 212 (by decide)]; exact c⟩
          · rw [o2 211 (by decide)]
            rcases hl with u | u
            · exact fin l u
            · refine ⟨⟨by omega, by omega, ?_⟩, fun w w0 w1 hR => ?_⟩
              · by_cases e : dp = 0
                · left; rw [u, e, e0 (by omega)]
                · right
                  have := st (dp - 1) (by omega) (by omega)
                  rw [show dp - 1 + 1 = dp by omega] at this
                  exact ⟨_, this.1, this.2.1, by rw [this.2.2.2.1, u]⟩
              · rw [u] at hR
                exact hseen dp (by omega) (Int.le_refl _) w w0 (by omega) w1 hR
          · rw [o2 212 (by decide)] at hR
            rw [o2 211 (by decide)]
            rw [v213, if_neg (by omega)] at w1
            exact hseen d d0 (by omega) w w0 w1 wT hR
  refine lup (n := T) (I := fun y m1 => 0 ≤ y ∧ y ≤ T ∧ (∀ p, p ≠ 211 → m1 p = m p) ∧ ∀ w, 0 ≤ w → w < y → m1 211 w = 0) (G := fun y m1 => GL iX11_finds m1 2 [(2, 139), (0, x), (0, y), (9, 0), (9, 0)] [] Q) ?_ ?_ 0 m ⟨by decide, T0, fun p _ => rfl, fun w w0 w1 => by omega⟩
  · rintro y m1 hy ⟨y0, -, f1, z1⟩ K
    refine sX11_finds_2 ?_
    rw [f1 139 (by decide), hT, jw_id (x := y + 1) (by omega) (by omega)]
    refine ⟨fun z => absurd z (by omega), fun _ => ⟨y0, by omega, K _ ⟨by omega, by omega, fun p hp => by rw [jup_ne hp]; exact f1 p hp, fun w w0 w1 => ?_⟩⟩⟩
    rw [jup_self]
    split
    · rfl
    · exact z1 w w0 (by omega)
  · rintro y m1 hy ⟨y0, y1, f1, z1⟩
    obtain rfl : y = T := by omega
    refine sX11_finds_2 ?_
    rw [f1 139 (by decide), hT]
    refine ⟨fun _ => ?_, fun z => absurd (Int.le_refl _) z⟩
    generalize hm2 : jup (jup m1 212 0 x) 213 0 (-1) = m2
    have a212 : m2 212 0 = x := by rw [← hm2, jup_ne (by decide), jup_s]
    have a213 : m2 213 0 = -1 := by rw [← hm2, jup_s]
    have a211 : ∀ w, 0 ≤ w → w < y → m2 211 w = 0 := fun w w0 w1 => by rw [← hm2, jup_ne (by decide), jup_ne (by decide)]; exact z1 w w0 w1
    refine key ((us m2 * (y + 3) + lv 0 m2).toNat + 1) 0 m2 (fun _ => False) (by omega) ((hD 0 m2 (fun _ => False)).mpr ⟨fun p a b c => by rw [← hm2, jup_ne c, jup_ne b]; exact f1 p a, ⟨by decide, by decide, fun _ => a212, fun h => absurd h (by decide)⟩, fun d d0 d1 => ?_, fun d d0 d1 => by omega, fun _ => by rw [a213]; omega, fun d d' d0 d1 d2 => by omega, fun w w0 w1 hw => absurd (a211 w w0 w1) hw, fun l hl => hl.elim, fun d d0 d1 w w0 w1 wT hR => ?_⟩)
    · obtain rfl : d = 0 := by omega
      rw [a212]; exact ⟨x0, x1⟩
    · obtain rfl : d = 0 := by omega
      rw [a213] at w1
      omega

/-! the class's search for a follower -/
theorem inj_le {T : Int} (T0 : 0 ≤ T) {f : Int → Int} {n : Int} (hr : ∀ i, 0 ≤ i → i < n → 0 ≤ f i ∧ f i < T) (hd : ∀ i j, 0 ≤ i → i < j → j < n → f i ≠ f j) : n ≤ T := by
  obtain ⟨N, rfl⟩ : ∃ N : Nat, T = N := ⟨T.toNat, by omega⟩
  apply Classical.byContradiction
  intro h
  obtain ⟨i, j, hij, hj, e⟩ := pigeon N (fun i : Nat => f (i : Int)) (fun i hi => hr i (by omega) (by omega))
  exact hd i j (by omega) (by omega) (by omega) e
/-- the class's rows hold the matching -/
def fM (T : Int) (M : Int → Int) (m : jM) : Prop := (∀ y, 0 ≤ y → y < T → m 117 y = M y) ∧ ∀ x, 0 ≤ x → x < T → (m 116 x = -1 ∧ ¬ cvr T M x) ∨ (0 ≤ m 116 x ∧ m 116 x < T ∧ M (m 116 x) = x)
theorem c_joinBack {m : jM} {Q : Int → jM → Prop} {T : Int} {R : Int → Int → Prop} {M q : Int → Int} {tail y : Int} (T0 : 0 ≤ T) (T18 : T ≤ 18) (hq : ∀ i, 0 ≤ i → i < tail → 0 ≤ q i ∧ q i < T) (hd : ∀ i j, 0 ≤ i → i < j → j < tail → q i ≠ q j) (hx : ¬ cvr T M (q 0)) (hch : ∀ i, 0 < i → i < tail → ∃ y j, 0 ≤ y ∧ y < T ∧ M y = q i ∧ 0 ≤ j ∧ j < i ∧ m 118 y = q j ∧ R (q j) y) (hM : mtch T R M) (hf : fM T M m) (y0 : 0 ≤ y) (y1 : y < T) (hy : M y = -1) {j : Int} (j0 : 0 ≤ j) (j1 : j < tail) (hrf : m 118 y = q j) (hR : R (q j) y) (hQ : ∀ m' M', (∀ p, p ≠ 116 → p ≠ 117 → m' p = m p) → mtch T R M' → fM T M' m' → (∀ z, 0 ≤ z → (cvr T M' z ↔ cvr T M z ∨ z = q 0)) → Q 0 m') : ML iX2_joinBack [(2, 106), (0, y)] m Q := by
  have tT := inj_le T0 hq hd
  refine sX2_joinBack ?_
  have key : ∀ (n : Nat) (j y cnt : Int) (m1 : jM) (M1 : Int → Int), j < n → 0 ≤ j → j < tail → 0 ≤ cnt → cnt + j ≤ 17 → 0 ≤ y → y < T → m 118 y = q j → R (q j) y → (∀ p, p ≠ 116 → p ≠ 117 → m1 p = m p) → mtch T R M1 → M1 y = -1 → (∀ z, 0 ≤ z → z < T → z ≠ y → m1 117 z = M1 z) → (∀ x, 0 ≤ x → x < T → (m1 116 x = -1 ∧ ¬ cvr T M1 x) ∨ (0 ≤ m1 116 x ∧ m1 116 x < T ∧ M1 (m1 116 x) = x)) → (∀ i, 0 < i → i ≤ j → ∀ z, 0 ≤ z → z < T → M z = q i → M1 z = q i) → (∀ z, 0 ≤ z → (cvr T M1 z ↔ cvr T M z)) → GL iX2_joinBack m1 4 [(2, 106), (9, 0), (0, y), (0, cnt), (9, 0), (9, 0)] [] Q := by
    intro n
    induction n with
    | zero => intro j y cnt m1 M1 h1 h2; omega
    | succ n ih =>
      intro j y cnt m1 M1 hjn j0 j1 c0 c1 y0 y1 hrf hR f1 hM1 hy1 h117 h116 hag hcv
      have qj := hq j j0 j1
      have e118 : m1 118 y = q j := by rw [f1 118 (by decide) (by decide)]; exact hrf
      refine sX2_joinBack_4 ?_
      rw [e118, jw_id (x := cnt + 1) (by omega) (by omega)]
      refine ⟨fun z => absurd z (by omega), fun _ => ⟨fun z => absurd z (by omega), fun _ => ⟨y0, by omega, qj.1, by omega, qj.1, by omega, y0, by omega, ?_⟩⟩⟩
      generalize hM2 : (fun z => if z = y then q j else if M1 z = q j then -1 else M1 z) = M2
      have v2 : ∀ z, M2 z = if z = y then q j else if M1 z = q j then -1 else M1 z := by intro z; rw [← hM2]
      generalize hm2 : jup (jup m1 116 (q j) y) 117 y (q j) = m2
      have v116 : ∀ z, m2 116 z = if z = q j then y else m1 116 z := by intro z; rw [← hm2, jup_ne (by decide), jup_self]
      have v117 : ∀ z, m2 117 z = if z = y then q j else m1 117 z := by intro z; rw [← hm2, jup_self, jup_ne (by decide)]
      have f2 : ∀ p, p ≠ 116 → p ≠ 117 → m2 p = m p := fun p h h2 => by rw [← hm2, jup_ne h2, jup_ne h]; exact f1 p h h2
      have mt2 : mtch T R M2 := by
        refine ⟨fun z z0 z1 => ?_, fun z z' z0 z1 z0' z1' hne he => ?_⟩
        · rw [v2]
          by_cases e : z = y
          · rw [if_pos e, e]; exact Or.inr ⟨qj.1, qj.2, hR⟩
          · rw [if_neg e]
            by_cases e2 : M1 z = q j
            · rw [if_pos e2]; exact Or.inl rfl
            · rw [if_neg e2]; exact hM1.1 z z0 z1
        · rw [v2] at hne
          rw [v2, v2] at he
          by_cases e : z = y
          · rw [if_pos e] at he hne
            by_cases e' : z' = y
            · rw [e, e']
            · rw [if_neg e'] at he
              split at he <;> omega
          · rw [if_neg e] at he hne
            by_cases e' : z' = y
            · rw [if_pos e'] at he
              split at he <;> omega
            · rw [if_neg e'] at he
              split at he
              · rw [if_pos (by assumption)] at hne
                exact absurd rfl hne
              · rename_i w
                rw [if_neg w] at hne
                split at he
                · omega
                · exact hM1.2 z z' z0 z1 z0' z1' hne he
      have c2 : ∀ z, z ≠ -1 → (cvr T M2 z ↔ cvr T M1 z ∨ z = q j) := by
        intro z zn
        constructor
        · rintro ⟨w, w0, w1, e⟩
          rw [v2] at e
          split at e
          · exact Or.inr e.symm
          · split at e
            · omega
            · exact Or.inl ⟨w, w0, w1, e⟩
        · rintro (⟨w, w0, w1, e⟩ | e)
          · by_cases e2 : z = q j
            · exact ⟨y, y0, y1, by rw [v2, if_pos rfl, e2]⟩
            · refine ⟨w, w0, w1, ?_⟩
              rw [v2, if_neg (by rintro rfl; omega), if_neg (by omega), e]
          · exact ⟨y, y0, y1, by rw [v2, if_pos rfl, e]⟩
      have n116 : ∀ x, 0 ≤ x → x < T → (m2 116 x = -1 ∧ ¬ cvr T M2 x) ∨ (0 ≤ m2 116 x ∧ m2 116 x < T ∧ M2 (m2 116 x) = x) := by
        intro x x0 x1
        rw [v116]
        by_cases e : x = q j
        · rw [if_pos e]
          exact Or.inr ⟨y0, y1, by rw [v2, if_pos rfl, e]⟩
        · rw [if_neg e]
          rcases h116 x x0 x1 with z | z
          · exact Or.inl ⟨z.1, fun w => by
              rcases (c2 x (by omega)).mp w with u | u
              · exact z.2 u
              · exact e u⟩
          · refine Or.inr ⟨z.1, z.2.1, ?_⟩
            have : m1 116 x ≠ y := by intro w; rw [w, hy1] at z; omega
            rw [v2, if_neg this, if_neg (by omega), z.2.2]
      rcases h116 (q j) qj.1 qj.2 with hfree | hfree
      · -- the root
        have ej : j = 0 := by
          apply Classical.byContradiction
          intro w
          obtain ⟨y', j', a0, a1, a2, -⟩ := hch j (by omega) j1
          exact hfree.2 ((hcv (q j) qj.1).mpr ⟨y', a0, a1, a2⟩)
        rw [hfree.1]
        have fin : Q 0 m2 := by
          refine hQ m2 M2 f2 mt2 ⟨fun z z0 z1 => ?_, n116⟩ (fun z z0 => ?_)
          · rw [v117, v2]
            by_cases e : z = y
            · rw [if_pos e, if_pos e]
            · rw [if_neg e, if_neg e, h117 z z0 z1 e, if_neg]
              intro w
              exact hfree.2 ⟨z, z0, z1, w⟩
          · rw [c2 z (by omega), ej, hcv z z0]
        have go : ∀ cnt', GL iX2_joinBack m2 4 [(2, 106), (9, 0), (0, -1), (0, cnt'), (9, 0), (9, 0)] [] Q := fun cnt' => sX2_joinBack_4 ⟨fun _ => fin, fun _ => ⟨fun _ => fin, fun w => absurd rfl w⟩⟩
        exact go _
      · -- on to the one that lost its follower
        generalize hy1' : m1 116 (q j) = y1' at hfree
        have jpos : 0 < j := by
          apply Classical.byContradiction
          intro w
          have ej : j = 0 := by omega
          rw [ej] at hfree qj
          exact hx ((hcv (q 0) qj.1).mp ⟨y1', hfree⟩)
        obtain ⟨y', j', a0, a1, a2, a3, a4, a5, a6⟩ := hch j jpos j1
        have h2 := hag j jpos (Int.le_refl _) y' a0 a1 a2
        have ey : y' = y1' := hM1.2 y' y1' a0 a1 hfree.1 hfree.2.1 (by omega) (by rw [h2, hfree.2.2])
        rw [← ey]
        refine ih j' y' (cnt + 1) m2 M2 (by omega) a3 (by omega) (by omega) (by omega) a0 a1 a5 a6 f2 mt2 ?_ (fun z z0 z1 hz => ?_) n116 (fun i i0 i1 z z0 z1 hz => ?_) (fun z z0 => ?_)
        · rw [v2, if_neg (by rintro rfl; omega), if_pos h2]
        · rw [v117, v2]
          by_cases e : z = y
          · rw [if_pos e, if_pos e]
          · rw [if_neg e, if_neg e, h117 z z0 z1 e, if_neg]
            intro w
            exact hz (hM1.2 z y' z0 z1 a0 a1 (by omega) (by rw [w, h2]))
        · have w := hag i i0 (by omega) z z0 z1 hz
          have qi := hq i (by omega) (by omega)
          rw [v2, if_neg (by rintro rfl; omega), if_neg, w]
          rw [w]
          exact hd i j (by omega) (by omega) j1
        · rw [c2 z (by omega), hcv z z0]
          constructor
          · rintro (w | w)
            · exact w
            · exact ⟨y', a0, a1, by rw [a2, w]⟩
          · exact Or.inl
  have := key (j.toNat + 1) j y 0 m M (by omega) j0 j1 (by decide) (by omega) y0 y1 hrf hR (fun p _ _ => rfl) hM hy (fun z z0 z1 _ => hf.1 z z0 z1) hf.2 (fun i _ _ z _ _ h => h) (fun z _ => Iff.rfl)
  exact this

/-! rows told in the reference -/
theorem rMn_cell {V m : jM} {c k q i x : Int} (h : rMn V c k m) (hq : (149 ≤ q ∧ q ≤ 153 ∧ i = 24 * k + V 0 1) ∨ ((q = 155 ∨ q = 156) ∧ i = 3 * k + V 0 2) ∨ (q = 158 ∧ i = 6 * k + V 0 3)) : rMn V c k (jup m q i x) := by
  refine ⟨rCt_cg h.1 (fun p hp => by rw [jup_ne (by omega)]) (fun j _ => by rw [jup_ne (by omega)]), fun z => ⟨rNa_cg (h.2 z).1 (by rw [jup_ne (by omega)]) (fun p hp => jup_ne (by omega)), ?_⟩⟩
  obtain ⟨h1, h2, h3, h4⟩ := (h.2 z).2
  have keep : ∀ p j, ¬ (p = q ∧ j = i) → jup m q i x p j = m p j := fun p j hp => by unfold jup; rw [if_neg hp]
  refine ⟨fun j j0 j1 => ?_, fun j j0 j1 => ?_, fun j j0 j1 => ?_, fun j j0 j1 => ?_⟩
  · rw [keep 149 _ (by omega), keep 150 _ (by omega), keep 151 _ (by omega), keep 152 _ (by omega), keep 153 _ (by omega)]
    exact h1 j j0 j1
  · rw [keep 155 _ (by omega), keep 156 _ (by omega)]
    exact h2 j j0 j1
  · rw [keep 158 _ (by omega)]
    exact h3 j j0 j1
  · rw [keep 146 _ (by omega)]
    exact h4 j j0 j1
theorem rX_cell {K S W : Int → Int} {n k c q i x : Int} {m0 V m : jM} {P : Int × Int × Int} (h : rX K S W n k m0 P V c m) (hq : (149 ≤ q ∧ q ≤ 153 ∧ i = 24 * k + V 0 1) ∨ ((q = 155 ∨ q = 156) ∧ i = 3 * k + V 0 2) ∨ (q = 158 ∧ i = 6 * k + V 0 3)) : rX K S W n k (jup m q i x) P V c (jup m q i x) :=
  ⟨rdH_rf, rTk_cg h.2.1 (fun p hp => jup_ne (by omega)), rPs_cg h.2.2.1 (fun j _ => by rw [jup_ne (by omega)]), rMn_cell h.2.2.2 hq⟩
theorem rX_base {K S W : Int → Int} {n k c : Int} {m0 V m : jM} {P : Int × Int × Int} (h : rX K S W n k m0 P V c m) : rX K S W n k m P V c m := ⟨rdH_rf, h.2⟩
theorem rMn_adW {V m : jM} {c k a b d e g : Int} (h : rMn V c k m) (hw : V 0 1 < 24) (hx : V 0 11 = 0 → m 149 (24 * k + V 0 1) = a ∧ m 150 (24 * k + V 0 1) = b ∧ m 151 (24 * k + V 0 1) = d ∧ m 152 (24 * k + V 0 1) = e ∧ m 153 (24 * k + V 0 1) = g) : rMn (adW V a b d e g) c k (jup m 148 k (V 0 1 + 1)) := by
  obtain ⟨c1, c2, c3, c4, c5⟩ := id h.1
  have e01 : adW V a b d e g 0 1 = V 0 1 + 1 := rfl
  have e0 : ∀ j, j ≠ 1 → adW V a b d e g 0 j = V 0 j := fun j hj => by unfold adW; rw [jup_j hj, jup_ne (by decide), jup_ne (by decide), jup_ne (by decide), jup_ne (by decide), jup_ne (by decide)]
  refine ⟨⟨by rw [jup_ne (by decide)]; exact c1, ?_, by rw [jup_ne (by decide)]; exact c3, by rw [jup_ne (by decide), e0 11 (by decide)]; exact c4, by rw [jup_ne (by decide), e0 11 (by decide), e0 12 (by decide)]; exact c5⟩, fun z => ?_⟩
  · rw [jup_ne (by decide), jup_s, jup_ne (by decide), jup_ne (by decide), jup_ne (by decide), e01, e0 0 (by decide), e0 2 (by decide), e0 3 (by decide), e0 4 (by decide)]
    exact ⟨c2.1, rfl, c2.2.2⟩
  · rw [e0 11 (by decide)] at z
    obtain ⟨N, R1, R2, R3, R4⟩ := h.2 z
    have x := hx z
    refine ⟨rNa_V (rNa_cg N (by rw [jup_ne (by decide)]) (fun q hq => jup_ne (by omega))) (e0 10 (by decide)) rfl rfl, fun i i0 i1 => ?_, fun i i0 i1 => ?_, fun i i0 i1 => ?_, fun i i0 i1 => ?_⟩
    · rw [e01] at i1
      rw [jup_ne (by decide), jup_ne (by decide), jup_ne (by decide), jup_ne (by decide), jup_ne (by decide)]
      by_cases ei : i = V 0 1
      · subst ei
        rw [x.1, x.2.1, x.2.2.1, x.2.2.2.1, x.2.2.2.2]
        refine ⟨?_, ?_, ?_, ?_, ?_⟩ <;> simp [adW, jup]
      · have q := R1 i i0 (by omega)
        rw [q.1, q.2.1, q.2.2.1, q.2.2.2.1, q.2.2.2.2]
        refine ⟨?_, ?_, ?_, ?_, ?_⟩ <;> simp [adW, jup, ei]
    · rw [e0 2 (by decide)] at i1
      rw [jup_ne (by decide), jup_ne (by decide)]
      exact R2 i i0 i1
    · rw [e0 3 (by decide)] at i1
      rw [jup_ne (by decide)]
      exact R3 i i0 i1
    · rw [jup_ne (by decide)]
      exact R4 i i0 i1
theorem rMn_adS {V m : jM} {c k a b : Int} (h : rMn V c k m) (hw : V 0 2 < 3) (hx : V 0 11 = 0 → m 155 (3 * k + V 0 2) = a ∧ m 156 (3 * k + V 0 2) = b) : rMn (adS V a b) c k (jup m 154 k (V 0 2 + 1)) := by
  obtain ⟨c1, c2, c3, c4, c5⟩ := id h.1
  have e01 : adS V a b 0 2 = V 0 2 + 1 := rfl
  have e0 : ∀ j, j ≠ 2 → adS V a b 0 j = V 0 j := fun j hj => by unfold adS; rw [jup_j hj, jup_ne (by decide), jup_ne (by decide)]
  refine ⟨⟨by rw [jup_ne (by decide)]; exact c1, ?_, by rw [jup_ne (by decide)]; exact c3, by rw [jup_ne (by decide), e0 11 (by decide)]; exact c4, by rw [jup_ne (by decide), e0 11 (by decide), e0 12 (by decide)]; exact c5⟩, fun z => ?_⟩
  · rw [jup_ne (by decide), jup_ne (by decide), jup_s, jup_ne (by decide), jup_ne (by decide), e01, e0 0 (by decide), e0 1 (by decide), e0 3 (by decide), e0 4 (by decide)]
    exact ⟨c2.1, c2.2.1, rfl, c2.2.2.2⟩
  · rw [e0 11 (by decide)] at z
    obtain ⟨N, R1, R2, R3, R4⟩ := h.2 z
    have x := hx z
    refine ⟨rNa_V (rNa_cg N (by rw [jup_ne (by decide)]) (fun q hq => jup_ne (by omega))) (e0 10 (by decide)) rfl rfl, fun i i0 i1 => ?_, fun i i0 i1 => ?_, fun i i0 i1 => ?_, fun i i0 i1 => ?_⟩
    · rw [e0 1 (by decide)] at i1
      rw [jup_ne (by decide), jup_ne (by decide), jup_ne (by decide), jup_ne (by decide), jup_ne (by decide)]
      exact R1 i i0 i1
    · rw [e01] at i1
      rw [jup_ne (by decide), jup_ne (by decide)]
      by_cases ei : i = V 0 2
      · subst ei
        rw [x.1, x.2]
        refine ⟨?_, ?_⟩ <;> simp [adS, jup]
      · have q := R2 i i0 (by omega)
        rw [q.1, q.2]
        refine ⟨?_, ?_⟩ <;> simp [adS, jup, ei]
    · rw [e0 3 (by decide)] at i1
      rw [jup_ne (by decide)]
      exact R3 i i0 i1
    · rw [jup_ne (by decide)]
      exact R4 i i0 i1
theorem rMn_adT {V m : jM} {c k a : Int} (h : rMn V c k m) (hw : V 0 3 < 6) (hx : V 0 11 = 0 → m 158 (6 * k + V 0 3) = a) : rMn (adT V a) c k (jup m 157 k (V 0 3 + 1)) := by
  obtain ⟨c1, c2, c3, c4, c5⟩ := id h.1
  have e01 : adT V a 0 3 = V 0 3 + 1 := rfl
  have e0 : ∀ j, j ≠ 3 → adT V a 0 j = V 0 j := fun j hj => by unfold adT; rw [jup_j hj, jup_ne (by decide)]
  refine ⟨⟨by rw [jup_ne (by decide)]; exact c1, ?_, by rw [jup_ne (by decide)]; exact c3, by rw [jup_ne (by decide), e0 11 (by decide)]; exact c4, by rw [jup_ne (by decide), e0 11 (by decide), e0 12 (by decide)]; exact c5⟩, fun z => ?_⟩
  · rw [jup_ne (by decide), jup_ne (by decide), jup_ne (by decide), jup_s, jup_ne (by decide), e01, e0 0 (by decide), e0 1 (by decide), e0 2 (by decide), e0 4 (by decide)]
    exact ⟨c2.1, c2.2.1, c2.2.2.1, rfl, c2.2.2.2.2⟩
  · rw [e0 11 (by decide)] at z
    obtain ⟨N, R1, R2, R3, R4⟩ := h.2 z
    have x := hx z
    refine ⟨rNa_V (rNa_cg N (by rw [jup_ne (by decide)]) (fun q hq => jup_ne (by omega))) (e0 10 (by decide)) rfl rfl, fun i i0 i1 => ?_, fun i i0 i1 => ?_, fun i i0 i1 => ?_, fun i i0 i1 => ?_⟩
    · rw [e0 1 (by decide)] at i1
      rw [jup_ne (by decide), jup_ne (by decide), jup_ne (by decide), jup_ne (by decide), jup_ne (by decide)]
      exact R1 i i0 i1
    · rw [e0 2 (by decide)] at i1
      rw [jup_ne (by decide), jup_ne (by decide)]
      exact R2 i i0 i1
    · rw [e01] at i1
      rw [jup_ne (by decide)]
      by_cases ei : i = V 0 3
      · subst ei
        rw [x]; simp [adT, jup]
      · rw [R3 i i0 (by omega)]
        simp [adT, jup, ei]
    · rw [jup_ne (by decide)]
      exact R4 i i0 i1
theorem rMn_9 {V m : jM} {c k j x : Int} (h : rMn V c k m) (j0 : 0 ≤ j) (j1 : j < 7) : rMn (jup V 9 j x) c k (jup m 146 (7 * k + j) x) := by
  obtain ⟨c1, c2, c3, c4, c5⟩ := id h.1
  refine ⟨⟨by rw [jup_ne (by decide)]; exact c1, ?_, by rw [jup_ne (by decide)]; exact c3, by rw [jup_ne (by decide)]; exact c4, by rw [jup_ne (by decide)]; exact c5⟩, fun z => ?_⟩
  · rw [jup_ne (by decide), jup_ne (by decide), jup_ne (by decide), jup_ne (by decide), jup_ne (by decide)]
    exact c2
  · obtain ⟨N, R1, R2, R3, R4⟩ := h.2 z
    refine ⟨rNa_V (rNa_cg N (by rw [jup_ne (by decide)]) (fun q hq => jup_ne (by omega))) rfl rfl rfl, fun i i0 i1 => ?_, fun i i0 i1 => ?_, fun i i0 i1 => ?_, fun i i0 i1 => ?_⟩
    · rw [jup_ne (by decide), jup_ne (by decide), jup_ne (by decide), jup_ne (by decide), jup_ne (by decide)]
      exact R1 i i0 i1
    · rw [jup_ne (by decide), jup_ne (by decide)]
      exact R2 i i0 i1
    · rw [jup_ne (by decide)]
      exact R3 i i0 i1
    · rw [jup_self, jup_self]
      by_cases e : i = j
      · rw [if_pos e, if_pos (by omega)]
      · rw [if_neg e, if_neg (by omega)]
        exact R4 i i0 i1
theorem ltF_0 {S : Int → Int} {a tok : Int} {V : jM} (ha : a ≠ 0) (h : ltF S a tok V 0 11 = 0) : False := ltF_11 ha h
theorem wrF_0 {S : Int → Int} {B : Prop} [Decidable B] {tok : Int} {V : jM} (h : wrF S B tok V 0 11 = 0) : V 0 11 = 0 ∧ ¬ B := by
  unfold wrF at h
  by_cases c : B
  · rw [if_pos c] at h; exact absurd h (ltF_11 (by decide))
  · rw [if_neg c] at h; exact ⟨h, c⟩
theorem plN_0 {W S : Int → Int} {tok : Int} {V : jM} (h : (plN W S tok V).2 0 11 = 0) : V 0 11 = 0 ∧ (plN W S tok V).2 = V ∧ (plN W S tok V).1 = V 31 (ix V (W tok)) ∧ ix V (W tok) ≠ -1 ∧ V 31 (ix V (W tok)) ≠ -1 := by
  unfold plN at h ⊢
  by_cases c : ix V (W tok) = -1
  · rw [if_pos c] at h; exact absurd h (ltF_11 (by decide))
  · rw [if_neg c] at h ⊢
    by_cases d : V 31 (ix V (W tok)) = -1
    · rw [if_pos d] at h; exact absurd h (ltF_11 (by decide))
    · rw [if_neg d] at h ⊢
      exact ⟨h, rfl, rfl, c, d⟩
theorem tlN_0 {W S : Int → Int} {tok w : Int} {V : jM} (h : tlN W S tok w V 0 11 = 0) : V 0 11 = 0 ∧ ix V (W tok) = -1 ∧ tlN W S tok w V = jup (jup (jup V 30 (V 0 10) (W tok)) 31 (V 0 10) w) 0 10 (V 0 10 + 1) := by
  unfold tlN at h ⊢
  by_cases c : ix V (W tok) ≠ -1
  · rw [if_pos c] at h; exact absurd h (ltF_11 (by decide))
  · rw [if_neg c] at h ⊢
    rw [jup_j (by decide), jup_ne (by decide), jup_ne (by decide)] at h
    exact ⟨h, Classical.byContradiction c, rfl⟩
theorem nmI_V {V V' : jM} (h : nmI V) (h0 : V' 0 0 = V 0 0) (h10 : V' 0 10 = V 0 10) (h30 : V' 30 = V 30) (h31 : V' 31 = V 31) : nmI V' := by
  unfold nmI at *
  rw [h0, h10, h30, h31]
  exact h
theorem nmI_pl {W S : Int → Int} {tok : Int} {V : jM} (h : nmI V) : nmI (plN W S tok V).2 := nmI_V h (plN_V.1 0 (by decide) (by decide)) (plN_V.1 10 (by decide) (by decide)) (plN_V.2 30 (by decide)) (plN_V.2 31 (by decide))
theorem nmI_wr {S : Int → Int} {B : Prop} [Decidable B] {tok : Int} {V : jM} (h : nmI V) : nmI (wrF S B tok V) := nmI_V h (wrF_V.1 0 (by decide) (by decide)) (wrF_V.1 10 (by decide) (by decide)) (wrF_V.2 30 (by decide)) (wrF_V.2 31 (by decide))
theorem nmI_tl {W S : Int → Int} {tok w : Int} {V : jM} (h : nmI V) (h0 : 0 ≤ V 0 0) (hw : w = -1 ∨ w = V 0 0) : nmI (jup (tlN W S tok w V) 0 0 (if w = -1 then V 0 0 else V 0 0 + 1)) := by
  obtain ⟨h1, h2, h3, h4⟩ := id h
  by_cases c : ix V (W tok) ≠ -1
  · have e : tlN W S tok w V = ltF S 3 tok V := by unfold tlN; rw [if_pos c]
    rw [e]
    refine ⟨by rw [jup_j (by decide), ltF_V.1 10 (by decide) (by decide)]; exact h1, ?_, ?_, ?_⟩
    · intro i j i0 ij
      rw [jup_j (by decide), ltF_V.1 10 (by decide) (by decide), jup_ne (by decide), ltF_V.2 30 (by decide)]
      exact h2 i j i0 ij
    · intro i i0
      rw [jup_j (by decide), ltF_V.1 10 (by decide) (by decide), jup_ne (by decide), ltF_V.2 31 (by decide), jup_s]
      intro i1
      have := h3 i i0 i1
      split <;> omega
    · intro i j i0 ij
      rw [jup_j (by decide), ltF_V.1 10 (by decide) (by decide), jup_ne (by decide), ltF_V.2 31 (by decide)]
      exact h4 i j i0 ij
  · have e : tlN W S tok w V = jup (jup (jup V 30 (V 0 10) (W tok)) 31 (V 0 10) w) 0 10 (V 0 10 + 1) := by unfold tlN; rw [if_neg c]
    have nx := (ix_in (V := V) (x := W tok) h1).resolve_right (fun y => c (by omega))
    rw [e]
    have g10 : ∀ x, (jup (jup (jup (jup V 30 (V 0 10) (W tok)) 31 (V 0 10) w) 0 10 (V 0 10 + 1)) 0 0 x) 0 10 = V 0 10 + 1 := fun x => by rw [jup_j (by decide), jup_s]
    have g30 : ∀ x i, (jup (jup (jup (jup V 30 (V 0 10) (W tok)) 31 (V 0 10) w) 0 10 (V 0 10 + 1)) 0 0 x) 30 i = if i = V 0 10 then W tok else V 30 i := fun x i => by rw [jup_ne (by decide), jup_ne (by decide), jup_ne (by decide), jup_self]
    have g31 : ∀ x i, (jup (jup (jup (jup V 30 (V 0 10) (W tok)) 31 (V 0 10) w) 0 10 (V 0 10 + 1)) 0 0 x) 31 i = if i = V 0 10 then w else V 31 i := fun x i => by rw [jup_ne (by decide), jup_ne (by decide), jup_self, jup_ne (by decide)]
    refine ⟨by rw [g10]; omega, fun i j i0 ij j1 => ?_, fun i i0 i1 => ?_, fun i j i0 ij j1 => ?_⟩
    · rw [g10] at j1
      rw [g30, g30, if_neg (by omega)]
      by_cases ej : j = V 0 10
      · rw [if_pos ej]; exact nx.2 i i0 (by omega)
      · rw [if_neg ej]; exact h2 i j i0 ij (by omega)
    · rw [g10] at i1
      rw [g31, jup_s]
      by_cases ei : i = V 0 10
      · rw [if_pos ei]
        rcases hw with y | y
        · exact Or.inl y
        · right; rw [if_neg (by omega)]; omega
      · rw [if_neg ei]
        have := h3 i i0 (by omega)
        split <;> omega
    · rw [g10] at j1
      rw [g31, g31, if_neg (by omega)]
      by_cases ej : j = V 0 10
      · rw [if_pos ej]
        intro y
        have := h3 i i0 (by omega)
        omega
      · rw [if_neg ej]; exact h4 i j i0 ij (by omega)

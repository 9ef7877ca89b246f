/-! what TELLs mean, and the class's rows -/
def adW (V : jM) (a b c d e : Int) : jM := jup (jup (jup (jup (jup (jup V 1 (V 0 1) a) 2 (V 0 1) b) 3 (V 0 1) c) 4 (V 0 1) d) 5 (V 0 1) e) 0 1 (V 0 1 + 1)
def adS (V : jM) (a b : Int) : jM := jup (jup (jup V 6 (V 0 2) a) 7 (V 0 2) b) 0 2 (V 0 2 + 1)
def adT (V : jM) (a : Int) : jM := jup (jup V 8 (V 0 3) a) 0 3 (V 0 3 + 1)
theorem sh24 : ∀ c : Fin 24, 0 ≤ jshl 1 ((c : Nat) : Int) ∧ jshl 1 ((c : Nat) : Int) < 16777216 := by decide +kernel
theorem or24 {x c : Int} (x0 : 0 ≤ x) (x1 : x < 16777216) (c0 : 0 ≤ c) (c1 : c < 24) : (0 ≤ jor x (jshl 1 c) ∧ jor x (jshl 1 c) < 16777216) ∧ ∀ i, 0 ≤ i → i < 31 → (tb (jor x (jshl 1 c)) i = true ↔ tb x i = true ∨ i = c) := by
  have s := sh24 ⟨c.toNat, by omega⟩
  simp only [Int.toNat_of_nonneg c0] at s
  refine ⟨⟨jor_nn (by omega) (by omega), jor_lt (k := 24) ⟨x0, x1⟩ ⟨s.1, s.2⟩ (by decide)⟩, fun i i0 i1 => ?_⟩
  rw [tb_or (by omega) (by omega) i0 (by omega), tb_shl1 c0 (by omega) i0, Bool.or_eq_true, decide_eq_true_iff]
theorem or0_24 {x : Int} (x0 : 0 ≤ x) (x1 : x < 16777216) : jor x 0 = x := by
  refine tb_ext (jor_in _ _) (by omega) (fun i i0 i1 => ?_)
  rw [tb_or (by omega) (by decide) i0 i1, tb_zero, Bool.or_false]
theorem vCt_V {V V' m : jM} {t : Int} (h : vCt V t m) (h0 : ∀ j, 0 ≤ j → j ≤ 4 → V' 0 j = V 0 j) (h1 : ∀ p, 1 ≤ p → p ≤ 9 → V' p = V p) : vCt V' t m := by
  unfold vCt at *
  rw [h0 0 (by decide) (by decide), h0 1 (by decide) (by decide), h0 2 (by decide) (by decide), h0 3 (by decide) (by decide), h0 4 (by decide) (by decide), h1 1 (by decide) (by decide), h1 2 (by decide) (by decide), h1 3 (by decide) (by decide), h1 4 (by decide) (by decide), h1 5 (by decide) (by decide), h1 6 (by decide) (by decide), h1 7 (by decide) (by decide), h1 8 (by decide) (by decide), h1 9 (by decide) (by decide)]
  exact h
/-- a text's rows, of the fields those that count -/
theorem vCt_f {V m m' : jM} {t : Int} (h : vCt V t m) (hf : ∀ j, j = 1 ∨ j = 2 ∨ j = 7 ∨ j = 8 ∨ j = 11 ∨ j = 13 → m' t j = m t j) (hr : ∀ j, 1 ≤ j → j < 11 → m' (t + j) = m (t + j)) : vCt V t m' := by
  unfold vCt at *
  rw [hf 1 (by omega), hf 2 (by omega), hf 7 (by omega), hf 8 (by omega), hf 11 (by omega), hf 13 (by omega), hr 1 (by decide) (by decide), hr 2 (by decide) (by decide), hr 3 (by decide) (by decide), hr 4 (by decide) (by decide), hr 5 (by decide) (by decide), hr 6 (by decide) (by decide), hr 7 (by decide) (by decide), hr 10 (by decide) (by decide)]
  exact h
/-- no bad way that was not told -/
def bwI (V : jM) (t : Int) (m : jM) : Prop := ∀ i, V 0 1 ≤ i → i < 24 → tb (m t 7) i = false
theorem c_addWay {V m : jM} {Q : Int → jM → Prop} {t a b c d e : Int} (hv : vCt V t m) (hbw : bwI V t m) (w0 : 0 ≤ V 0 1) (hw : V 0 1 < 24) (he : e = 0 ∨ e = 1) (hQ : ∀ m', frx [(t + 1), (t + 2), (t + 3), (t + 4)] [(t, 7), (t, 2)] m m' → vCt (adW V a b c d e) t m' → bwI (adW V a b c d e) t m' → Q 0 m') : ML iX8_addWay [(2, t), (0, a), (0, b), (0, c), (0, d), (0, e)] m Q := by
  obtain ⟨ht, ⟨c0, c1, c2, c3, c4⟩, hW, hB, hS, hT, hR⟩ := hv
  have tr := jTx_rng ht
  have o := or24 hB.1 hB.2 w0 hw
  have z0 := or0_24 hB.1 hB.2
  have fin : ∀ x, (0 ≤ x ∧ x < 16777216) → (∀ i, 0 ≤ i → i < V 0 1 → (tb x i = true ↔ tb (m t 7) i = true)) → (tb x (V 0 1) = true ↔ e ≠ 0) → (∀ i, V 0 1 < i → i < 24 → tb x i = false) → Q 0 (jup (jup (jup (jup (jup (jup m (t + 1) (V 0 1) a) (t + 2) (V 0 1) b) (t + 3) (V 0 1) c) (t + 4) (V 0 1) d) t 7 x) t 2 (V 0 1 + 1)) := by
    intro x x0 x1 x2 x3
    refine hQ _ (frx_upF (frx_upF (frx_upA (frx_upA (frx_upA (frx_upA frx_rf (by simp)) (by simp)) (by simp)) (by simp)) (by simp)) (by simp)) ?_ (fun i i0 i1 => by rw [jup_self, if_neg (by decide), jup_s]; exact x3 i (by have e1 : adW V a b c d e 0 1 = V 0 1 + 1 := rfl; omega) i1)
    have r : ∀ j, j ≠ 0 → (jup (jup (jup (jup (jup (jup m (t + 1) (V 0 1) a) (t + 2) (V 0 1) b) (t + 3) (V 0 1) c) (t + 4) (V 0 1) d) t 7 x) t 2 (V 0 1 + 1)) (t + j) = (jup (jup (jup (jup m (t + 1) (V 0 1) a) (t + 2) (V 0 1) b) (t + 3) (V 0 1) c) (t + 4) (V 0 1) d) (t + j) := fun j hj => by rw [jup_ne (by omega), jup_ne (by omega)]
    have f : ∀ j, j ≠ 7 → j ≠ 2 → (jup (jup (jup (jup (jup (jup m (t + 1) (V 0 1) a) (t + 2) (V 0 1) b) (t + 3) (V 0 1) c) (t + 4) (V 0 1) d) t 7 x) t 2 (V 0 1 + 1)) t j = m t j := fun j h7 h2 => by rw [jup_self, if_neg h2, jup_self, if_neg h7, jup_ne (by omega), jup_ne (by omega), jup_ne (by omega), jup_ne (by omega)]
    have f7 : (jup (jup (jup (jup (jup (jup m (t + 1) (V 0 1) a) (t + 2) (V 0 1) b) (t + 3) (V 0 1) c) (t + 4) (V 0 1) d) t 7 x) t 2 (V 0 1 + 1)) t 7 = x := by rw [jup_self, if_neg (by decide), jup_s]
    have n1 : adW V a b c d e 0 1 = V 0 1 + 1 := rfl
    refine ⟨ht, ⟨?_, ?_, ?_, ?_, ?_⟩, fun i i0 i1 => ?_, ?_, fun i i0 i1 => ?_, fun i i0 i1 => ?_, fun i i0 i1 => ?_⟩
    · rw [f 1 (by decide) (by decide)]; exact c0
    · rw [jup_s]; rfl
    · rw [f 8 (by decide) (by decide)]; exact c2
    · rw [f 11 (by decide) (by decide)]; exact c3
    · rw [f 13 (by decide) (by decide)]; exact c4
    · rw [n1] at i1
      rw [r 1 (by decide), r 2 (by decide), r 3 (by decide), r 4 (by decide), f7]
      rw [jup_ne (show t + 1 ≠ t + 4 by omega), jup_ne (show t + 1 ≠ t + 3 by omega), jup_ne (show t + 1 ≠ t + 2 by omega), jup_ne (show t + 2 ≠ t + 4 by omega), jup_ne (show t + 2 ≠ t + 3 by omega), jup_ne (show t + 3 ≠ t + 4 by omega)]
      by_cases ei : i = V 0 1
      · subst ei
        rw [jup_s, jup_s, jup_s, jup_s]
        refine ⟨?_, ?_, ?_, ?_, ?_⟩
        · simp [adW, jup]
        · simp [adW, jup]
        · simp [adW, jup]
        · simp [adW, jup]
        · rw [x2]; simp [adW, jup]
      · have h := hW i i0 (by omega)
        rw [jup_self, if_neg ei, jup_self, if_neg ei, jup_self, if_neg ei, jup_self, if_neg ei, jup_ne (by omega), jup_ne (by omega), jup_ne (by omega), jup_ne (by omega), jup_ne (by omega), jup_ne (by omega), x1 i i0 (by omega)]
        refine ⟨?_, ?_, ?_, ?_, ?_⟩
        · rw [h.1]; simp [adW, jup, ei]
        · rw [h.2.1]; simp [adW, jup, ei]
        · rw [h.2.2.1]; simp [adW, jup, ei]
        · rw [h.2.2.2.1]; simp [adW, jup, ei]
        · rw [h.2.2.2.2]; simp [adW, jup, ei]
    · rw [f7]; exact x0
    · have h := hS i i0 (by have e2 : adW V a b c d e 0 2 = V 0 2 := rfl; omega)
      rw [r 5 (by decide), r 6 (by decide)]
      rw [jup_ne (by omega), jup_ne (by omega), jup_ne (by omega), jup_ne (by omega), jup_ne (by omega), jup_ne (by omega), jup_ne (by omega), jup_ne (by omega)]
      exact h
    · have h := hT i i0 (by have e2 : adW V a b c d e 0 3 = V 0 3 := rfl; omega)
      rw [r 7 (by decide)]
      rw [jup_ne (by omega), jup_ne (by omega), jup_ne (by omega), jup_ne (by omega)]
      exact h
    · have h := hR i i0 i1
      rw [r 10 (by decide)]
      rw [jup_ne (by omega), jup_ne (by omega), jup_ne (by omega), jup_ne (by omega)]
      exact h
  refine sX8_addWay ht ?_
  rw [c1, jw_id (x := V 0 1 + 1) (by omega) (by omega)]
  refine ⟨fun _ => ⟨w0, hw, w0, hw, w0, hw, w0, hw, fun z => ?_, fun z => ?_⟩, fun z => absurd hw z⟩
  · rw [z0]
    refine fin _ hB (fun i _ _ => Iff.rfl) ?_ (fun i i0 i1 => hbw i (by omega) i1)
    rw [hbw _ (Int.le_refl _) hw]
    exact ⟨fun w => absurd w (by decide), fun w => absurd z w⟩
  · refine fin _ o.1 (fun i i0 i1 => ?_) ?_ (fun i i0 i1 => ?_)
    · rw [o.2 i i0 (by omega)]
      exact ⟨fun w => w.elim id (fun w => by omega), Or.inl⟩
    · rw [o.2 _ w0 (by omega)]
      exact ⟨fun _ => z, fun _ => Or.inr rfl⟩
    · have h := hbw i (by omega) i1
      have h2 := o.2 i (by omega) (by omega)
      cases hh : tb (jor (m t 7) (jshl 1 (V 0 1))) i
      · rfl
      · rcases h2.mp hh with w | w
        · rw [h] at w; exact absurd w (by decide)
        · omega
theorem c_addSchool {V m : jM} {Q : Int → jM → Prop} {t a b : Int} (hv : vCt V t m) (w0 : 0 ≤ V 0 2) (hw : V 0 2 < 3) (hQ : ∀ m', frx [(t + 5), (t + 6)] [(t, 8)] m m' → vCt (adS V a b) t m' → Q 0 m') : ML iX8_addSchool [(2, t), (0, a), (0, b)] m Q := by
  obtain ⟨ht, ⟨c0, c1, c2, c3, c4⟩, hW, hB, hS, hT, hR⟩ := hv
  have tr := jTx_rng ht
  refine sX8_addSchool ht ?_
  rw [c2, jw_id (x := V 0 2 + 1) (by omega) (by omega)]
  refine ⟨fun _ => ⟨w0, hw, w0, hw, hQ _ (frx_upF (frx_upA (frx_upA frx_rf (by simp)) (by simp)) (by simp)) ?_⟩, fun z => absurd hw z⟩
  have r : ∀ j, j ≠ 0 → j ≠ 5 → j ≠ 6 → (jup (jup (jup m (t + 5) (V 0 2) a) (t + 6) (V 0 2) b) t 8 (V 0 2 + 1)) (t + j) = m (t + j) := fun j hj h5 h6 => by rw [jup_ne (by omega), jup_ne (by omega), jup_ne (by omega)]
  have f : ∀ j, j ≠ 8 → (jup (jup (jup m (t + 5) (V 0 2) a) (t + 6) (V 0 2) b) t 8 (V 0 2 + 1)) t j = m t j := fun j h8 => by rw [jup_self, if_neg h8, jup_ne (by omega), jup_ne (by omega)]
  refine ⟨ht, ⟨?_, ?_, ?_, ?_, ?_⟩, fun i i0 i1 => ?_, ?_, fun i i0 i1 => ?_, fun i i0 i1 => ?_, fun i i0 i1 => ?_⟩
  · rw [f 1 (by decide)]; exact c0
  · rw [f 2 (by decide)]; exact c1
  · rw [jup_s]; rfl
  · rw [f 11 (by decide)]; exact c3
  · rw [f 13 (by decide)]; exact c4
  · rw [r 1 (by decide) (by decide) (by decide), r 2 (by decide) (by decide) (by decide), r 3 (by decide) (by decide) (by decide), r 4 (by decide) (by decide) (by decide), f 7 (by decide)]
    exact hW i i0 i1
  · rw [f 7 (by decide)]; exact hB
  · have e2 : adS V a b 0 2 = V 0 2 + 1 := rfl
    rw [e2] at i1
    rw [jup_ne (show t + 5 ≠ t by omega), jup_ne (show t + 6 ≠ t by omega), jup_ne (show t + 5 ≠ t + 6 by omega), jup_self, jup_self, jup_ne (show t + 6 ≠ t + 5 by omega)]
    by_cases ei : i = V 0 2
    · subst ei; rw [if_pos rfl, if_pos rfl]
      exact ⟨by simp [adS, jup], by simp [adS, jup]⟩
    · have h := hS i i0 (by omega)
      rw [if_neg ei, if_neg ei]
      exact ⟨by rw [h.1]; simp [adS, jup, ei], by rw [h.2]; simp [adS, jup, ei]⟩
  · rw [r 7 (by decide) (by decide) (by decide)]; exact hT i i0 i1
  · rw [r 10 (by decide) (by decide) (by decide)]; exact hR i i0 i1
theorem c_addStop {V m : jM} {Q : Int → jM → Prop} {t a : Int} (hv : vCt V t m) (w0 : 0 ≤ V 0 3) (hw : V 0 3 < 6) (hQ : ∀ m', frx [(t + 7)] [(t, 11)] m m' → vCt (adT V a) t m' → Q 0 m') : ML iX8_addStop [(2, t), (0, a)] m Q := by
  obtain ⟨ht, ⟨c0, c1, c2, c3, c4⟩, hW, hB, hS, hT, hR⟩ := hv
  have tr := jTx_rng ht
  refine sX8_addStop ht ?_
  rw [c3, jw_id (x := V 0 3 + 1) (by omega) (by omega)]
  refine ⟨fun _ => ⟨w0, hw, hQ _ (frx_upF (frx_upA frx_rf (by simp)) (by simp)) ?_⟩, fun z => absurd hw z⟩
  have r : ∀ j, j ≠ 0 → j ≠ 7 → (jup (jup m (t + 7) (V 0 3) a) t 11 (V 0 3 + 1)) (t + j) = m (t + j) := fun j hj h7 => by rw [jup_ne (by omega), jup_ne (by omega)]
  have f : ∀ j, j ≠ 11 → (jup (jup m (t + 7) (V 0 3) a) t 11 (V 0 3 + 1)) t j = m t j := fun j h8 => by rw [jup_self, if_neg h8, jup_ne (by omega)]
  refine ⟨ht, ⟨?_, ?_, ?_, ?_, ?_⟩, fun i i0 i1 => ?_, ?_, fun i i0 i1 => ?_, fun i i0 i1 => ?_, fun i i0 i1 => ?_⟩
  · rw [f 1 (by decide)]; exact c0
  · rw [f 2 (by decide)]; exact c1
  · rw [f 8 (by decide)]; exact c2
  · rw [jup_s]; rfl
  · rw [f 13 (by decide)]; exact c4
  · rw [r 1 (by decide) (by decide), r 2 (by decide) (by decide), r 3 (by decide) (by decide), r 4 (by decide) (by decide), f 7 (by decide)]
    exact hW i i0 i1
  · rw [f 7 (by decide)]; exact hB
  · rw [r 5 (by decide) (by decide), r 6 (by decide) (by decide)]; exact hS i i0 i1
  · have e2 : adT V a 0 3 = V 0 3 + 1 := rfl
    rw [e2] at i1
    rw [jup_ne (show t + 7 ≠ t by omega), jup_self]
    by_cases ei : i = V 0 3
    · subst ei; rw [if_pos rfl]
      simp [adT, jup]
    · have h := hT i i0 (by omega)
      rw [if_neg ei, h]
      simp [adT, jup, ei]
  · rw [r 10 (by decide) (by decide)]; exact hR i i0 i1

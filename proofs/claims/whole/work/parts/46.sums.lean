/-! the class's view: open ways, least sums -/
def vCt (V : jM) (t : Int) (m : jM) : Prop := jTx t ∧ (m t 1 = V 0 0 ∧ m t 2 = V 0 1 ∧ m t 8 = V 0 2 ∧ m t 11 = V 0 3 ∧ m t 13 = V 0 4) ∧ (∀ i, 0 ≤ i → i < V 0 1 → m (t + 1) i = V 1 i ∧ m (t + 2) i = V 2 i ∧ m (t + 3) i = V 3 i ∧ m (t + 4) i = V 4 i ∧ (tb (m t 7) i = true ↔ V 5 i ≠ 0)) ∧ (0 ≤ m t 7 ∧ m t 7 < 16777216) ∧ (∀ i, 0 ≤ i → i < V 0 2 → m (t + 5) i = V 6 i ∧ m (t + 6) i = V 7 i) ∧ (∀ i, 0 ≤ i → i < V 0 3 → m (t + 7) i = V 8 i) ∧ ∀ i, 0 ≤ i → i < 7 → m (t + 10) i = V 9 i
theorem vCt_fr {V m m' : jM} {t : Int} (h : vCt V t m) (hf : ∀ j, 0 ≤ j → j < 12 → m' (t + j) = m (t + j)) : vCt V t m' := by
  have e0 := hf 0 (by decide) (by decide)
  rw [Int.add_zero] at e0
  unfold vCt at *
  rw [e0, hf 1 (by decide) (by decide), hf 2 (by decide) (by decide), hf 3 (by decide) (by decide), hf 4 (by decide) (by decide), hf 5 (by decide) (by decide), hf 6 (by decide) (by decide), hf 7 (by decide) (by decide), hf 10 (by decide) (by decide)]
  exact h
theorem vCf_fr {V m m' : jM} (h : vCf V m) (hf : ∀ p, p ∈ [13, 14, 15, 16, 17, 18, 19, 20] → m' p = m p) : vCf V m' := by
  unfold vCf at *
  rw [hf 13 (by decide), hf 14 (by decide), hf 15 (by decide), hf 16 (by decide), hf 17 (by decide), hf 18 (by decide), hf 19 (by decide), hf 20 (by decide)]
  exact h
def vwU (V m : jM) : Prop := ∀ what, 0 ≤ what → what < 3 → 0 ≤ m 23 what ∧ m 23 what < 16777216 ∧ ∀ w, 0 ≤ w → w < 24 → (tb (m 23 what) w = true ↔ w < V 0 1 ∧ vOpen V what w)
def vwS (V m : jM) : Prop := ∀ what, 0 ≤ what → what < 3 → 0 ≤ m 24 what ∧ m 24 what < 4096 ∧ ∀ a, 0 ≤ a → a < 12 → tb (m 24 what) a = true → ∀ b, 0 ≤ b → b < V 0 0 → m 25 (lx what a b) = enc (vD V what a b)
/-- the class's view holds V, by the text at t -/
def vwB (V : jM) (t : Int) (m : jM) : Prop := (m 11 2 = t ∧ m 11 3 = V 0 5 ∧ m 11 4 = V 0 6 ∧ m 11 6 = V 0 7) ∧ vCt V t m ∧ vCf V m ∧ vwU V m ∧ vwS V m
theorem jTx_rng {t : Int} (h : jTx t) : 27 ≤ t ∧ t ≤ 51 := by unfold jTx at h; omega
theorem enc_bd {V : jM} (h : vKt V) (what a b : Int) : 0 ≤ enc (vD V what a b) ∧ enc (vD V what a b) ≤ 268435456 := by
  have := vD_ge h what a b
  have := (vD_le h what a b).1
  unfold enc
  split <;> omega
/-- a frame that leaves alone what a view stands on -/
theorem vwB_fr {V m m' : jM} {t : Int} (h : vwB V t m) (hf : frx [24, 25] [] m m') (hs : vwS V m') : vwB V t m' := by
  have ht := jTx_rng h.2.1.1
  have fr1 : ∀ p, p ≠ 24 → p ≠ 25 → m' p = m p := fun p h1 h2 => frx_row hf p (by simp [h1, h2]) (by intro q hq; cases hq)
  refine ⟨?_, vCt_fr h.2.1 (fun j j0 j1 => fr1 _ (by omega) (by omega)), vCf_fr h.2.2.1 (fun p hp => fr1 p (by rintro rfl; simp at hp) (by rintro rfl; simp at hp)), ?_, hs⟩
  · rw [fr1 11 (by decide) (by decide)]
    exact h.1
  · have := h.2.2.2.1
    unfold vwU at this ⊢
    rw [fr1 23 (by decide) (by decide)]
    exact this
/-- relaxing: u at the round's beginning, w ways are done -/
def sbJ (V : jM) (what a w fl : Int) (u t : Int → Int) : Prop := bfS (vN V) (vE V what) a 268435456 t ∧ (∀ b, 0 ≤ b → b < V 0 0 → 0 ≤ t b ∧ t b ≤ u b) ∧ (∀ i, 0 ≤ i → i < w → vOpen V what i → t (V 2 i) ≤ u (V 1 i) + vLen V what i ∧ t (V 1 i) ≤ u (V 2 i) + vLen V what i) ∧ (fl = 0 → ∀ b, 0 ≤ b → b < V 0 0 → t b = u b)
theorem c_findSums {V m : jM} {Q : Int → jM → Prop} {t what a : Int} (hk : vKt V) (hb : vwB V t m) (w0 : 0 ≤ what) (w1 : what < 3) (a0 : 0 ≤ a) (a1 : a < V 0 0) (hQ : ∀ m', frx [24, 25] [] m m' → vwB V t m' → tb (m' 24 what) a = true → Q 0 m') : ML iX9_findSums [(2, 11), (0, what), (0, a)] m Q := by
  have g := vE_ok hk what
  have hn := vN_e hk
  have hN := hk.1
  have ht := jTx_rng hb.2.1.1
  have hS := hb.2.2.2.2 what w0 w1
  have hU := hb.2.2.2.1 what w0 w1
  have hpa : tb (jshl 1 a) a = true := by rw [tb_shl1 a0 (by omega) a0, decide_eq_true rfl]
  have hpb := jshl1_in a0 (show a < 31 by omega)
  have hp12 : jshl 1 a < 4096 := by
    rw [jshl1 a a0 (by omega)]
    have : (2 : Int) ^ a.toNat ≤ 2 ^ 11 := p2le (by omega)
    omega
  refine sX9_findSums ?_
  rw [jw_id (x := what * 12) (by omega) (by omega), jw_id (x := what * 12 + a) (by omega) (by omega), jw_id (x := (what * 12 + a) * 12) (by omega) (by omega), show (what * 12 + a) * 12 = lx what a 0 by unfold lx; omega]
  have hlx : ∀ b, lx what a 0 + b = lx what a b := fun b => by unfold lx; omega
  have hl0 : 0 ≤ lx what a 0 ∧ lx what a 0 + 12 ≤ 432 := by unfold lx; omega
  generalize hbs : lx what a 0 = bs at *
  -- what stays, and what the row ends as
  have fin : ∀ m', frx [24, 25] [] m m' → (∀ x, x < bs ∨ bs + 12 ≤ x → m' 25 x = m 25 x) → (∀ x, x ≠ what → m' 24 x = m 24 x) → m' 24 what = jor (m 24 what) (jshl 1 a) → bfS (vN V) (vE V what) a 268435456 (fun b => m' 25 (bs + b)) → (∀ r, bfL (vN V) (vE V what) a r (fun b => m' 25 (bs + b))) → Q 0 m' := by
    intro m' hf hx hy hw hbS hbL
    refine hQ m' hf (vwB_fr hb hf (fun w g0 g1 => ?_)) (by rw [hw, tb_or (by omega) (by omega) a0 (by omega), hpa, Bool.or_true])
    by_cases e : w = what
    · rw [e, hw]
      refine ⟨jor_nn (by omega) (by omega), jor_lt (k := 12) (by omega) (by omega) (by decide), fun a' a0' a1' hab b b0 b1 => ?_⟩
      by_cases e2 : a' = a
      · have := bf_end g hbS hbL b0 (by omega) (by have := (vD_le hk what a b).1; unfold vD at this; omega) (by decide)
        rw [e2, ← hlx b, this]
        rfl
      · rw [tb_or (by omega) (by omega) a0' (by omega), tb_shl1 a0 (by omega) a0', decide_eq_false e2, Bool.or_false] at hab
        have := hS.2.2 a' a0' a1' hab b b0 b1
        rw [hx _ (by unfold lx at hbs ⊢; omega)]
        exact this
    · have := hb.2.2.2.2 w g0 g1
      rw [hy w e]
      refine ⟨this.1, this.2.1, fun a' a0' a1' hab b b0 b1 => ?_⟩
      rw [hx _ (by unfold lx at hbs ⊢; omega)]
      exact this.2.2 a' a0' a1' hab b b0 b1
  refine lup (n := 12) (I := fun i m1 => 0 ≤ i ∧ i ≤ 12 ∧ frx [24, 25] [] m m1 ∧ m1 24 = m 24 ∧ (∀ x, x < bs ∨ bs + 12 ≤ x → m1 25 x = m 25 x) ∧ ∀ b, 0 ≤ b → b < i → m1 25 (bs + b) = if b = a then 0 else 268435456) (G := fun i m1 => GL iX9_findSums m1 13 [(2, 11), (0, what), (0, a), (0, bs), (0, i), (9, 0), (9, 0), (9, 0), (9, 0), (9, 0), (9, 0)] [] Q) ?_ ?_ 0 m ⟨by decide, by decide, frx_rf, rfl, fun x hx => rfl, fun b b0 b1 => by omega⟩
  · rintro i m1 hi ⟨i0, -, f1, f2, f3, f4⟩ K
    refine sX9_findSums_13 ?_
    rw [jw_id (x := bs + i) (by omega) (by omega), jw_id (x := i + 1) (by omega) (by omega)]
    have up : ∀ v, v = (if i = a then 0 else 268435456) → GL iX9_findSums (jup m1 25 (bs + i) v) 13 [(2, 11), (0, what), (0, a), (0, bs), (0, i + 1), (9, 0), (9, 0), (9, 0), (9, 0), (9, 0), (9, 0)] [] Q := by
      intro v hv
      refine K _ ⟨by omega, by omega, frx_upA f1 (by decide), by rw [jup_ne (by decide)]; exact f2, fun x hx => by rw [jup_self, if_neg (by omega)]; exact f3 x hx, fun b b0 b1 => ?_⟩
      rw [jup_self]
      by_cases e : b = i
      · rw [if_pos (by omega), hv, e]
      · rw [if_neg (by omega)]
        exact f4 b b0 (by omega)
    refine ⟨fun c => absurd c (by omega), fun _ => ⟨fun c => ⟨by omega, by omega, up _ (by rw [if_neg c])⟩, fun c => ⟨by omega, by omega, up _ (by rw [if_pos (Classical.byContradiction c)])⟩⟩⟩
  · rintro i m1 hi ⟨i0, i1, f1, f2, f3, f4⟩
    obtain rfl : i = 12 := by omega
    have et : m1 11 2 = t := by rw [frx_row f1 11 (by decide) (by decide)]; exact hb.1.1
    have eU : m1 23 what = m 23 what := by rw [frx_row f1 23 (by decide) (by decide)]
    refine sX9_findSums_13 ⟨fun _ => ⟨w0, w1, w0, w1, w0, w1, ?_⟩, fun c => absurd hi c⟩
    rw [et, eU, f2]
    have key : ∀ arr, (arr = t + 3 ∨ arr = t + 4) → (∀ i, 0 ≤ i → i < V 0 1 → m arr i = vLen V what i) → GL iX9_findSums (jup m1 24 what (jor (m 24 what) (jshl 1 a))) 97 [(2, 11), (9, 0), (9, 0), (0, bs), (0, m 23 what), (2, arr), (0, 1), (0, 0), (9, 0), (9, 0), (9, 0)] [] Q := by
      intro arr harr hlen
      have hat : jat SH arr 0 24 := by
        rcases harr with rfl | rfl
        · exact atT_3 hb.2.1.1
        · exact atT_4 hb.2.1.1
      refine lup2 (n := 12) (I := fun r m2 fl => 0 ≤ r ∧ r ≤ 12 ∧ frx [24, 25] [] m m2 ∧ (∀ x, x < bs ∨ bs + 12 ≤ x → m2 25 x = m 25 x) ∧ (∀ x, x ≠ what → m2 24 x = m 24 x) ∧ m2 24 what = jor (m 24 what) (jshl 1 a) ∧ bfS (vN V) (vE V what) a 268435456 (fun b => m2 25 (bs + b)) ∧ bfL (vN V) (vE V what) a r.toNat (fun b => m2 25 (bs + b)) ∧ m2 25 (bs + a) ≤ 0 ∧ (∀ b, 0 ≤ b → b < V 0 0 → 0 ≤ m2 25 (bs + b)) ∧ (fl = 0 → ∀ r, bfL (vN V) (vE V what) a r (fun b => m2 25 (bs + b)))) (G := fun r m2 fl => GL iX9_findSums m2 97 [(2, 11), (9, 0), (9, 0), (0, bs), (0, m 23 what), (2, arr), (0, fl), (0, r), (9, 0), (9, 0), (9, 0)] [] Q) ?_ ?_ 0 _ 1 ⟨by decide, by decide, frx_upA f1 (by decide), fun x hx => by rw [jup_ne (by decide)]; exact f3 x hx, fun x hx => by rw [jup_self, if_neg hx, f2], by rw [jup_self, if_pos rfl], ?_, ?_, ?_, ?_, fun h => absurd h (by decide)⟩
      · rintro r m2 fl hr ⟨r0, -, g1, g2, g3, g4, g5, g6, g7, g8, g9⟩ K
        refine sX9_findSums_97 hat ⟨fun c => absurd c (by omega), fun _ => ⟨fun c => fin m2 g1 g2 g3 g4 g5 (g9 c), fun _ => ?_⟩⟩
        refine lup2 (n := V 0 1) (I := fun w m3 f3 => 0 ≤ w ∧ w ≤ V 0 1 ∧ frx [24, 25] [] m m3 ∧ (∀ x, x < bs ∨ bs + 12 ≤ x → m3 25 x = m 25 x) ∧ (∀ x, x ≠ what → m3 24 x = m 24 x) ∧ m3 24 what = jor (m 24 what) (jshl 1 a) ∧ (f3 = 0 ∨ f3 = 1) ∧ sbJ V what a w f3 (fun b => m2 25 (bs + b)) (fun b => m3 25 (bs + b))) (G := fun w m3 f3 => GL iX9_findSums m3 115 [(2, 11), (9, 0), (9, 0), (0, bs), (0, m 23 what), (2, arr), (0, f3), (0, r), (0, w), (9, 0), (9, 0)] [] Q) ?_ ?_ 0 m2 0 ⟨by decide, by omega, g1, g2, g3, g4, Or.inl rfl, g5, fun b b0 b1 => ⟨g8 b b0 b1, Int.le_refl _⟩, fun i z0 z1 => by omega, fun _ b _ _ => rfl⟩
        · rintro w m3 f3 hw ⟨v0, -, h1, h2, h3, h4, h5, J1, J2, J3, J4⟩ K2
          have e2 : m3 11 2 = t := by rw [frx_row h1 11 (by decide) (by decide)]; exact hb.1.1
          have row : ∀ j, 0 ≤ j → j < 12 → m3 (t + j) = m (t + j) := fun j j0 j1 => frx_row h1 _ (by simp only [List.mem_cons, List.not_mem_nil, or_false]; omega) (by intro q hq; cases hq)
          have rowt : m3 t = m t := by have := row 0 (by decide) (by decide); rwa [Int.add_zero] at this
          have tx := hb.2.1
          have txw := tx.2.2.1 w v0 hw
          have kw := hk.2.1 w v0 hw
          have bl := vLen_bd hk (what := what) v0 hw
          have el : m3 arr w = vLen V what w := by
            have : m3 arr = m arr := by
              rcases harr with rfl | rfl
              · exact row 3 (by decide) (by decide)
              · exact row 4 (by decide) (by decide)
            rw [this]
            exact hlen w v0 hw
          have hu := hU.2.2 w v0 (by omega)
          have jA := J2 (V 1 w) kw.1 kw.2.1
          have jB := J2 (V 2 w) kw.2.2.1 kw.2.2.2.1
          have sA := J1 (V 1 w) kw.1 (by omega)
          have sB := J1 (V 2 w) kw.2.2.1 (by omega)
          have sA1 := sA.1
          have sB1 := sB.1
          simp only at jA jB sA1 sB1 sA sB
          refine sX9_findSums_115 hat ?_
          rw [e2, rowt, tx.2.1.2.1, row 1 (by decide) (by decide), row 2 (by decide) (by decide), txw.1, txw.2.1, el, jshr_bit (by omega) v0 (by omega), jw_id (x := bs + V 1 w) (by omega) (by omega), jw_id (x := bs + V 2 w) (by omega) (by omega), jw_id (x := w + 1) (by omega) (by omega), jw_id (x := m3 25 (bs + V 1 w) + vLen V what w) (by omega) (by omega), jw_id (x := m3 25 (bs + V 2 w) + vLen V what w) (by omega) (by omega)]
          -- one cell is lowered
          have low : ∀ y v, vOpen V what w → (0 ≤ y ∧ y < V 0 0) → v < m3 25 (bs + y) → 0 ≤ v → (∃ kk, walk (vN V) (vE V what) kk a y v) → (∀ t' : Int → Int, (∀ b, 0 ≤ b → b < V 0 0 → t' b = if b = y then v else m3 25 (bs + b)) → t' (V 2 w) ≤ m2 25 (bs + V 1 w) + vLen V what w ∧ t' (V 1 w) ≤ m2 25 (bs + V 2 w) + vLen V what w) → GL iX9_findSums (jup m3 25 (bs + y) v) 115 [(2, 11), (9, 0), (9, 0), (0, bs), (0, m 23 what), (2, arr), (0, 1), (0, r), (0, w + 1), (9, 0), (9, 0)] [] Q := by
            intro y v ho hy hv hv0 hwk hedge
            have cell : ∀ b, jup m3 25 (bs + y) v 25 (bs + b) = if b = y then v else m3 25 (bs + b) := by
              intro b
              rw [jup_self]
              by_cases e : b = y
              · rw [if_pos e, if_pos (by omega)]
              · rw [if_neg e, if_neg (by omega)]
            refine K2 _ 1 ⟨by omega, by omega, frx_upA h1 (by decide), fun x hx => by rw [jup_self, if_neg (by omega)]; exact h2 x hx, fun x hx => by rw [jup_ne (by decide)]; exact h3 x hx, by rw [jup_ne (by decide)]; exact h4, Or.inr rfl, fun b b0 b1 => ?_, fun b b0 b1 => ?_, fun i z0 z1 hoi => ?_, fun h => absurd h (by decide)⟩
            · have e := cell b
              simp only
              rw [e]
              by_cases eb : b = y
              · rw [if_pos eb, eb]
                have := (J1 y hy.1 (by omega)).1
                simp only at this
                exact ⟨by omega, fun _ => hwk⟩
              · rw [if_neg eb]
                exact J1 b b0 b1
            · have e := cell b
              simp only
              rw [e]
              have j2 := J2 b b0 b1
              simp only at j2
              by_cases eb : b = y
              · rw [if_pos eb]
                rw [eb] at j2 ⊢
                omega
              · rw [if_neg eb]
                exact j2
            · simp only
              by_cases ei : i = w
              · rw [ei]
                exact hedge (fun b => jup m3 25 (bs + y) v 25 (bs + b)) (fun b _ _ => cell b)
              · have j3 := J3 i z0 (by omega) hoi
                simp only at j3
                rw [cell, cell]
                refine ⟨?_, ?_⟩
                · split
                  · rename_i q
                    rw [q] at j3
                    omega
                  · exact j3.1
                · split
                  · rename_i q
                    rw [q] at j3
                    omega
                  · exact j3.2
          have same : (vOpen V what w → m3 25 (bs + V 2 w) ≤ m3 25 (bs + V 1 w) + vLen V what w ∧ m3 25 (bs + V 1 w) ≤ m3 25 (bs + V 2 w) + vLen V what w) → GL iX9_findSums m3 115 [(2, 11), (9, 0), (9, 0), (0, bs), (0, m 23 what), (2, arr), (0, f3), (0, r), (0, w + 1), (9, 0), (9, 0)] [] Q := by
            intro hs
            refine K2 m3 f3 ⟨by omega, by omega, h1, h2, h3, h4, h5, J1, J2, fun i z0 z1 hoi => ?_, J4⟩
            by_cases ei : i = w
            · rw [ei] at hoi ⊢
              have := hs hoi
              simp only
              omega
            · exact J3 i z0 (by omega) hoi
          refine ⟨fun c => absurd c (by omega), fun _ => ⟨v0, by omega, v0, by omega, fun c => ?_, fun c => same (fun ho => ?_)⟩⟩
          · have ho : vOpen V what w := by
              apply (hu.mp ?_).2
              apply Classical.byContradiction
              intro z
              rw [if_neg z] at c
              exact c rfl
            refine ⟨by omega, by omega, v0, by omega, by omega, by omega, fun c2 => ⟨by omega, by omega, v0, by omega, by omega, by omega, fun c3 => same (fun _ => ⟨c2, c3⟩), fun c3 => ⟨by omega, by omega, v0, by omega, by omega, by omega, ?_⟩⟩, fun c2 => ⟨by omega, by omega, v0, by omega, by omega, by omega, ?_⟩⟩
            · refine low (V 1 w) _ ho ⟨kw.1, kw.2.1⟩ (by omega) (by omega) ?_ (fun t' ht' => ?_)
              · obtain ⟨kk, hwk⟩ := sB.2 (by omega)
                exact ⟨kk + 1, V 2 w, _, vLen V what w, hwk, ⟨w, v0, hw, ho, Or.inr ⟨rfl, rfl⟩, rfl⟩, rfl⟩
              · rw [ht' _ kw.1 kw.2.1, ht' _ kw.2.2.1 kw.2.2.2.1, if_pos rfl]
                split <;> omega
            · refine low (V 2 w) _ ho ⟨kw.2.2.1, kw.2.2.2.1⟩ (by omega) (by omega) ?_ (fun t' ht' => ?_)
              · obtain ⟨kk, hwk⟩ := sA.2 (by omega)
                exact ⟨kk + 1, V 1 w, _, vLen V what w, hwk, ⟨w, v0, hw, ho, Or.inl ⟨rfl, rfl⟩, rfl⟩, rfl⟩
              · rw [ht' _ kw.1 kw.2.1, ht' _ kw.2.2.1 kw.2.2.2.1, if_pos rfl]
                split <;> omega
          · have := hu.mpr ⟨hw, ho⟩
            rw [if_pos this] at c
            exact absurd (by decide) c
        · rintro w m3 f3 hw ⟨v0, v1, h1, h2, h3, h4, h5, J1, J2, J3, J4⟩
          obtain rfl : w = V 0 1 := by omega
          have e2 : m3 11 2 = t := by rw [frx_row h1 11 (by decide) (by decide)]; exact hb.1.1
          have rowt : m3 t = m t := frx_row h1 _ (by simp only [List.mem_cons, List.not_mem_nil, or_false]; omega) (by intro q hq; cases hq)
          refine sX9_findSums_115 hat ?_
          rw [e2, rowt, hb.2.1.2.1.2.1, jw_id (x := r + 1) (by omega) (by omega)]
          have ja := J2 a a0 a1
          simp only at ja
          refine ⟨fun _ => K m3 f3 ⟨by omega, by omega, h1, h2, h3, h4, J1, ?_, by omega, fun b b0 b1 => (J2 b b0 b1).1, fun e => ?_⟩, fun c => absurd (Int.le_refl _) c⟩
          · rw [show (r + 1).toNat = r.toNat + 1 by omega]
            refine bf_next (by omega) g6 ?_
            rintro x y l ⟨i, z0, z1, ho, hxy, rfl⟩
            have j3 := J3 i z0 z1 ho
            rcases hxy with ⟨q1, q2⟩ | ⟨q1, q2⟩
            · rw [← q1, ← q2]; exact j3.1
            · rw [← q1, ← q2]; exact j3.2
          · refine bf_fix g (by omega) ?_
            rintro x y l ⟨i, z0, z1, ho, hxy, rfl⟩
            have j3 := J3 i z0 z1 ho
            have ki := hk.2.1 i z0 z1
            have e1 := J4 e _ ki.1 ki.2.1
            have e2 := J4 e _ ki.2.2.1 ki.2.2.2.1
            simp only at j3 e1 e2 ⊢
            rcases hxy with ⟨q1, q2⟩ | ⟨q1, q2⟩
            · rw [← q1, ← q2, e1]; exact j3.1
            · rw [← q1, ← q2, e2]; exact j3.2
      · rintro r m2 fl hr ⟨r0, r1, g1, g2, g3, g4, g5, g6, g7, g8, g9⟩
        obtain rfl : r = 12 := by omega
        refine sX9_findSums_97 hat ⟨fun _ => fin m2 g1 g2 g3 g4 g5 (bf_all g ?_), fun c => absurd hr c⟩
        intro kk b s hkk hw
        exact g6 kk b s (by have : vN V ≤ 12 := by unfold vN; omega
                            omega) hw
      · intro b b0 b1
        simp only
        rw [jup_ne (by decide), f4 b b0 (by omega)]
        split
        · rename_i e
          exact ⟨by decide, fun _ => ⟨0, e.symm, a0, by omega, rfl⟩⟩
        · exact ⟨Int.le_refl _, fun h => absurd h (by decide)⟩
      · intro kk b s hkk hw
        obtain rfl : kk = 0 := Nat.le_zero.mp hkk
        obtain ⟨rfl, -, -, rfl⟩ := hw
        simp only
        rw [jup_ne (by decide), f4 a a0 (by omega), if_pos rfl]
        exact Int.le_refl _
      · rw [jup_ne (by decide), f4 a a0 (by omega), if_pos rfl]
        exact Int.le_refl _
      · intro b b0 b1
        rw [jup_ne (by decide), f4 b b0 (by omega)]
        split <;> decide
    refine ⟨fun c => key (t + 3) (Or.inl rfl) (fun i z0 z1 => ?_), fun c => key (t + 4) (Or.inr rfl) (fun i z0 z1 => ?_)⟩
    · rw [(hb.2.1.2.2.1 i z0 z1).2.2.1]
      unfold vLen
      rw [if_neg c]
    · rw [(hb.2.1.2.2.1 i z0 z1).2.2.2.1]
      unfold vLen
      rw [if_pos (Classical.byContradiction c)]
theorem c_sumOf {V m : jM} {Q : Int → jM → Prop} {t what a b : Int} (hk : vKt V) (hb : vwB V t m) (w0 : 0 ≤ what) (w1 : what < 3) (hQ : ∀ m', frx [24, 25] [] m m' → vwB V t m' → Q (enc (vD V what a b)) m') : ML iX9_sumOf [(2, 11), (0, what), (0, a), (0, b)] m Q := by
  have hN := hk.1
  have e1 := hb.1.1
  have e2 := hb.2.1.2.1.1
  have no : ¬ (0 ≤ a ∧ a < V 0 0 ∧ 0 ≤ b ∧ b < V 0 0) → Q 268435456 m := by
    intro hn
    have := hQ m frx_rf hb
    rw [vD_out hk hn] at this
    exact this
  refine sX9_sumOf ?_
  rw [e1, e2]
  refine sX10_within ⟨fun c => ⟨fun _ => no (by omega), fun z => absurd rfl z⟩, fun c1 => ⟨fun c => ⟨fun _ => no (by omega), fun z => absurd rfl z⟩, fun c2 => ⟨fun z => absurd z (by decide), fun _ => ?_⟩⟩⟩
  rw [e1, e2]
  refine sX10_within ⟨fun c => ⟨fun z => absurd rfl z, fun _ => no (by omega)⟩, fun c3 => ⟨fun c => ⟨fun z => absurd rfl z, fun _ => no (by omega)⟩, fun c4 => ⟨fun _ => ?_, fun z => absurd (by decide) z⟩⟩⟩
  have hS := hb.2.2.2.2 what w0 w1
  rw [jshr_bit (by omega) (by omega) (by omega), jw_id (x := what * 12) (by omega) (by omega), jw_id (x := what * 12 + a) (by omega) (by omega), jw_id (x := (what * 12 + a) * 12) (by omega) (by omega), jw_id (x := (what * 12 + a) * 12 + b) (by omega) (by omega), show (what * 12 + a) * 12 + b = lx what a b by unfold lx; omega]
  have hl : 0 ≤ lx what a b ∧ lx what a b < 432 := by unfold lx; omega
  refine ⟨w0, w1, fun c => ⟨hl.1, hl.2, ?_⟩, fun c => c_findSums hk hb w0 w1 (by omega) (by omega) (fun m' hf hb' ht => ⟨hl.1, hl.2, ?_⟩)⟩
  · have htb : tb (m 24 what) a = true := by
      apply Classical.byContradiction
      intro z
      rw [if_neg z] at c
      exact c rfl
    rw [hS.2.2 a (by omega) (by omega) htb b (by omega) (by omega)]
    exact hQ m frx_rf hb
  · rw [(hb'.2.2.2.2 what w0 w1).2.2 a (by omega) (by omega) ht b (by omega) (by omega)]
    exact hQ m' hf hb'

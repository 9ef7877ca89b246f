/-! rows of places -/
def vTo (V : jM) (i a : Int) : Int := if V 1 i = a then V 2 i else if V 2 i = a then V 1 i else -1
def onC (V : jM) (what b a i : Int) : Prop := vOpen V what i ∧ vTo V i a ≠ -1 ∧ vD V what (vTo V i a) b ≠ -1 ∧ vLen V what i + vD V what (vTo V i a) b = vD V what a b
noncomputable def onL (V : jM) (what b a : Int) : Nat → Int
  | 0 => -1
  | j + 1 => @ite _ (onC V what b a j ∧ (onL V what b a j = -1 ∨ vTo V j a < onL V what b a j)) (Classical.propDecidable _) (vTo V j a) (onL V what b a j)
/-- the place behind a on the row to b -/
noncomputable def onw (V : jM) (what b a : Int) : Int := onL V what b a (V 0 1).toNat
theorem vTo_in {V : jM} (h : vKt V) {i a : Int} (i0 : 0 ≤ i) (i1 : i < V 0 1) : vTo V i a = -1 ∨ (0 ≤ vTo V i a ∧ vTo V i a < V 0 0) := by
  have := h.2.1 i i0 i1
  unfold vTo
  split
  · omega
  · split <;> omega
theorem onL_in {V : jM} (h : vKt V) (what b a : Int) : ∀ j : Nat, (j : Int) ≤ V 0 1 → (onL V what b a j = -1 ∨ (0 ≤ onL V what b a j ∧ onL V what b a j < V 0 0 ∧ vD V what (onL V what b a j) b ≠ -1 ∧ vD V what (onL V what b a j) b < vD V what a b)) ∧ ((∃ i : Int, 0 ≤ i ∧ i < j ∧ onC V what b a i) → onL V what b a j ≠ -1) := by
  intro j
  induction j with
  | zero => exact fun _ => ⟨Or.inl rfl, fun ⟨i, i0, i1, _⟩ => by omega⟩
  | succ j ih =>
    intro hj
    have ih := ih (by omega)
    simp only [onL]
    split
    · rename_i q
      have t := (vTo_in h (a := a) (show (0 : Int) ≤ j by omega) (by omega)).resolve_left q.1.2.1
      have l := vLen_bd h (what := what) (show (0 : Int) ≤ j by omega) (by omega)
      have := q.1.2.2.2
      exact ⟨Or.inr ⟨t.1, t.2, q.1.2.2.1, by omega⟩, fun _ => q.1.2.1⟩
    · rename_i q
      refine ⟨ih.1, fun ⟨i, i0, i1, hi⟩ => ?_⟩
      by_cases e : i = j
      · rw [e] at hi
        intro z
        exact q ⟨hi, Or.inl z⟩
      · exact ih.2 ⟨i, i0, by omega, hi⟩
theorem onw_in {V : jM} (h : vKt V) (what b a : Int) : onw V what b a = -1 ∨ (0 ≤ onw V what b a ∧ onw V what b a < V 0 0 ∧ vD V what (onw V what b a) b ≠ -1 ∧ vD V what (onw V what b a) b < vD V what a b) := (onL_in h what b a _ (by have := h.1; omega)).1
theorem onw_ex {V : jM} (h : vKt V) {what b a : Int} (hr : vD V what a b ≠ -1) (hne : a ≠ b) : onw V what b a ≠ -1 := by
  have g := vE_ok h what
  obtain ⟨k, hw⟩ := dst_walk g hr
  cases k with
  | zero => exact absurd hw.1 hne
  | succ k =>
    obtain ⟨c, l, s', he, hw2, e⟩ := walk_uncons g hw
    have h1 := dst_le g hw2
    obtain ⟨k2, hw3⟩ := dst_walk g (a := c) (b := b) (by omega)
    have h2 := dst_le g (walk_cons g he hw3)
    obtain ⟨i, i0, i1, ho, hxy, el⟩ := he
    have hc := walk_nn g hw2
    have ht : vTo V i a = c := by
      unfold vTo
      rcases hxy with ⟨x, y⟩ | ⟨x, y⟩
      · rw [if_pos x, y]
      · by_cases z : V 1 i = a
        · rw [if_pos z, x, ← z, y]
        · rw [if_neg z, if_pos x, y]
    refine (onL_in h what b a _ (by have := h.1; omega)).2 ⟨i, i0, by have := h.1; omega, ho, by rw [ht]; omega, by rw [ht]; unfold vD; omega, ?_⟩
    rw [ht]
    unfold vD at *
    omega
/-- the k-th place of the row -/
noncomputable def pth (V : jM) (what b a : Int) : Nat → Int
  | 0 => a
  | k + 1 => if pth V what b a k = -1 ∨ pth V what b a k = b then -1 else onw V what b (pth V what b a k)
theorem pth_m1 {V : jM} {what b a : Int} {k : Nat} (h : pth V what b a k = -1) : ∀ i, pth V what b a (k + i) = -1 := by
  intro i
  induction i with
  | zero => exact h
  | succ i ih =>
    rw [show k + (i + 1) = k + i + 1 by omega]
    simp only [pth]
    rw [if_pos (Or.inl ih)]
theorem pth_in {V : jM} (h : vKt V) {what b a : Int} (hr : vD V what a b ≠ -1) : ∀ k, pth V what b a k = -1 ∨ (0 ≤ pth V what b a k ∧ pth V what b a k < V 0 0 ∧ vD V what (pth V what b a k) b ≠ -1) := by
  intro k
  induction k with
  | zero =>
    have : 0 ≤ a ∧ a < V 0 0 ∧ 0 ≤ b ∧ b < V 0 0 := Classical.byContradiction (fun z => hr (vD_out h z))
    exact Or.inr ⟨this.1, this.2.1, hr⟩
  | succ k ih =>
    simp only [pth]
    split
    · exact Or.inl rfl
    · rcases onw_in h what b (pth V what b a k) with z | z
      · exact Or.inl z
      · exact Or.inr ⟨z.1, z.2.1, z.2.2.1⟩
theorem pth_end {V : jM} (h : vKt V) {what b a : Int} (hr : vD V what a b ≠ -1) : pth V what b a 12 = -1 := by
  apply Classical.byContradiction
  intro hne
  have all : ∀ j, j ≤ 12 → pth V what b a j ≠ -1 := fun j hj z => hne (by have := pth_m1 z (12 - j); rwa [show j + (12 - j) = 12 by omega] at this)
  have dec : ∀ d i, i + d + 1 ≤ 12 → vD V what (pth V what b a (i + d + 1)) b < vD V what (pth V what b a i) b := by
    intro d
    have one : ∀ i, i + 1 ≤ 12 → vD V what (pth V what b a (i + 1)) b < vD V what (pth V what b a i) b := by
      intro i hi
      have h1 := all (i + 1) hi
      simp only [pth] at h1 ⊢
      split at h1
      · exact absurd rfl h1
      · rename_i q
        rw [if_neg q]
        exact ((onw_in h what b (pth V what b a i)).resolve_left h1).2.2.2
    induction d with
    | zero => intro i hi; exact one i hi
    | succ d ih =>
      intro i hi
      have h1 := ih i (by omega)
      have h2 := one (i + d + 1) (by omega)
      rw [show i + (d + 1) + 1 = i + d + 1 + 1 by omega]
      omega
  have h0 := h.1
  obtain ⟨i, j, hij, hj, e⟩ := pigeon 12 (pth V what b a) (fun i hi => by
    have := (pth_in h hr i).resolve_left (all i hi)
    omega)
  have := dec (j - i - 1) i (by omega)
  rw [show i + (j - i - 1) + 1 = j by omega, e] at this
  omega
theorem pth_far {V : jM} (h : vKt V) {what b a : Int} (hr : vD V what a b ≠ -1) {k : Nat} (hk : 12 ≤ k) : pth V what b a k = -1 := by
  have := pth_m1 (pth_end h hr) (k - 12)
  rwa [show 12 + (k - 12) = k by omega] at this
theorem c_otherEnd {V m : jM} {Q : Int → jM → Prop} {t i a : Int} (hb : vwB V t m) (i0 : 0 ≤ i) (i1 : i < V 0 1) (h24 : V 0 1 ≤ 24) (hQ : Q (vTo V i a) m) : ML iX9_otherEnd [(2, 11), (0, i), (0, a)] m Q := by
  have q := hb.2.1.2.2.1 i i0 i1
  refine sX9_otherEnd ?_
  rw [hb.1.1, q.1, q.2.1]
  unfold vTo at hQ
  refine ⟨i0, by omega, fun z => ⟨i0, by omega, fun z2 => ?_, fun z2 => ⟨i0, by omega, ?_⟩⟩, fun z => ⟨i0, by omega, ?_⟩⟩
  · rw [if_neg z, if_neg z2] at hQ; exact hQ
  · rw [if_neg z, if_pos (Classical.byContradiction z2)] at hQ; exact hQ
  · rw [if_pos (Classical.byContradiction z)] at hQ; exact hQ
theorem c_nextPlace {V m : jM} {Q : Int → jM → Prop} {t what a b : Int} (hk : vKt V) (hb : vwB V t m) (w0 : 0 ≤ what) (w1 : what < 3) (hQ : ∀ m', frx [24, 25] [] m m' → vwB V t m' → Q (onw V what b a) m') : ML iX9_nextPlace [(2, 11), (0, what), (0, a), (0, b)] m Q := by
  have hN := hk.1
  have hU := hb.2.2.2.1 what w0 w1
  have key : ∀ arr, (arr = t + 3 ∨ arr = t + 4) → (∀ m', vCt V t m' → ∀ i, 0 ≤ i → i < V 0 1 → m' arr i = vLen V what i) → GL iX9_nextPlace m 38 [(2, 11), (0, what), (0, a), (0, b), (0, -1), (0, m 23 what), (2, arr), (0, 0), (9, 0)] [] Q := by
    intro arr harr hlen
    have hat : jat SH arr 0 24 := by
      rcases harr with rfl | rfl
      · exact atT_3 hb.2.1.1
      · exact atT_4 hb.2.1.1
    refine lup2 (n := V 0 1) (I := fun j m1 x => 0 ≤ j ∧ j ≤ V 0 1 ∧ frx [24, 25] [] m m1 ∧ vwB V t m1 ∧ x = onL V what b a j.toNat) (G := fun j m1 x => GL iX9_nextPlace m1 38 [(2, 11), (0, what), (0, a), (0, b), (0, x), (0, m 23 what), (2, arr), (0, j), (9, 0)] [] Q) ?_ ?_ 0 m (-1) ⟨by decide, by omega, frx_rf, hb, rfl⟩
    · rintro j m1 x hj ⟨j0, -, f1, b1, rfl⟩ K
      have nx : onL V what b a (j + 1).toNat = @ite _ (onC V what b a j ∧ (onL V what b a j.toNat = -1 ∨ vTo V j a < onL V what b a j.toNat)) (Classical.propDecidable _) (vTo V j a) (onL V what b a j.toNat) := by
        rw [show (j + 1).toNat = j.toNat + 1 by omega]
        simp only [onL]
        rw [Int.toNat_of_nonneg j0]
      have no : ∀ m2, frx [24, 25] [] m m2 → vwB V t m2 → ¬ (onC V what b a j ∧ (onL V what b a j.toNat = -1 ∨ vTo V j a < onL V what b a j.toNat)) → GL iX9_nextPlace m2 38 [(2, 11), (0, what), (0, a), (0, b), (0, onL V what b a j.toNat), (0, m 23 what), (2, arr), (0, j + 1), (9, 0)] [] Q := fun m2 f2 b2 z => K m2 _ ⟨by omega, by omega, f2, b2, by rw [nx, if_neg z]⟩
      have yes : ∀ m2, frx [24, 25] [] m m2 → vwB V t m2 → (onC V what b a j ∧ (onL V what b a j.toNat = -1 ∨ vTo V j a < onL V what b a j.toNat)) → GL iX9_nextPlace m2 38 [(2, 11), (0, what), (0, a), (0, b), (0, vTo V j a), (0, m 23 what), (2, arr), (0, j + 1), (9, 0)] [] Q := fun m2 f2 b2 z => K m2 _ ⟨by omega, by omega, f2, b2, by rw [nx, if_pos z]⟩
      have hop := hU.2.2 j j0 (by omega)
      have l := vLen_bd hk (what := what) j0 hj
      refine sX9_nextPlace_38 hat ?_
      rw [b1.1.1, b1.2.1.2.1.2.1, jw_id (x := j + 1) (by omega) (by omega), jshr_bit (by omega) j0 (by omega)]
      refine ⟨fun z => absurd z (by omega), fun _ => c_otherEnd b1 j0 hj (by omega) ⟨fun z => no m1 f1 b1 (fun y => y.1.2.1 z), fun z => ⟨fun z2 => no m1 f1 b1 (fun y => ?_), fun z2 => ?_⟩⟩⟩
      · rw [if_pos (hop.mpr ⟨hj, y.1.1⟩)] at z2
        exact absurd z2 (by decide)
      · have ho : vOpen V what j := by
          apply Classical.byContradiction
          intro y
          rw [if_neg (fun q => y (hop.mp q).2)] at z2
          exact z2 rfl
        have fin : (onL V what b a j.toNat = -1 ∨ vTo V j a < onL V what b a j.toNat) → ML iX9_sumOf [(2, 11), (0, what), (0, b), (0, vTo V j a)] m1 (fun r17 m18 => (0 ≤ j ∧ j < 24 ∧ ML iX9_sumOf [(2, 11), (0, what), (0, b), (0, a)] m18 (fun r23 m24 => (((jw (r17 + (m18 arr j))) ≠ r23 → GL iX9_nextPlace m24 38 [(2, 11), (0, what), (0, a), (0, b), (0, onL V what b a j.toNat), (0, m 23 what), (2, arr), (0, j + 1), (9, 0)] [] Q) ∧ (¬ ((jw (r17 + (m18 arr j))) ≠ r23) → GL iX9_nextPlace m24 38 [(2, 11), (0, what), (0, a), (0, b), (0, vTo V j a), (0, m 23 what), (2, arr), (0, j + 1), (9, 0)] [] Q))))) := by
          intro hlt
          refine c_sumOf hk b1 w0 w1 (fun m2 f2 b2 => ⟨j0, by omega, c_sumOf hk b2 w0 w1 (fun m3 f3 b3 => ?_)⟩)
          have f13 := frx_tr f1 (frx_tr f2 f3)
          rw [hlen m2 b2.2.1 j j0 hj, vD_sym hk what b (vTo V j a), vD_sym hk what b a]
          have d1 := vD_ge hk what (vTo V j a) b
          have d2 := vD_ge hk what a b
          have d3 := vD_le hk what (vTo V j a) b
          have d4 := vD_le hk what a b
          have ec : onC V what b a j ↔ jw (enc (vD V what (vTo V j a) b) + vLen V what j) = enc (vD V what a b) := by
            rw [jw_id (by unfold enc; split <;> omega) (by unfold enc; split <;> omega)]
            unfold onC enc
            by_cases e1 : vD V what (vTo V j a) b = -1
            · rw [if_pos e1]
              constructor
              · intro y; exact absurd e1 y.2.2.1
              · intro y; split at y <;> omega
            · rw [if_neg e1]
              constructor
              · intro y
                rw [if_neg (by omega)]
                omega
              · intro y
                split at y
                · omega
                · exact ⟨ho, z, e1, by omega⟩
          exact ⟨fun y => no m3 f13 b3 (fun q => y (ec.mp q.1)), fun y => yes m3 f13 b3 ⟨ec.mpr (Classical.byContradiction y), hlt⟩⟩
        refine ⟨fun z3 => fin (Or.inl z3), fun z3 => ⟨fun z4 => no m1 f1 b1 (fun y => ?_), fun z4 => fin (Or.inr (by omega))⟩⟩
        rcases y.2 with q | q <;> omega
    · rintro j m1 x hj ⟨j0, j1, f1, b1, rfl⟩
      obtain rfl : j = V 0 1 := by omega
      refine sX9_nextPlace_38 hat ?_
      rw [b1.1.1, b1.2.1.2.1.2.1]
      exact ⟨fun _ => hQ m1 f1 b1, fun z => absurd (Int.le_refl _) z⟩
  refine sX9_nextPlace ?_
  rw [hb.1.1]
  refine ⟨w0, w1, fun z => key _ (Or.inl rfl) (fun m' hc i i0 i1 => ?_), fun z => key _ (Or.inr rfl) (fun m' hc i i0 i1 => ?_)⟩
  · unfold vLen
    rw [if_neg z]
    exact (hc.2.2.1 i i0 i1).2.2.1
  · unfold vLen
    rw [if_pos (Classical.byContradiction z)]
    exact (hc.2.2.1 i i0 i1).2.2.2.1
theorem c_placeInRow {V m : jM} {Q : Int → jM → Prop} {t what a b i : Int} (hk : vKt V) (hb : vwB V t m) (w0 : 0 ≤ what) (w1 : what < 3) (hQ : ∀ m', frx [24, 25] [] m m' → vwB V t m' → Q (if 0 ≤ i ∧ vD V what a b ≠ -1 then pth V what b a i.toNat else -1) m') : ML iX9_placeInRow [(2, 11), (0, what), (0, a), (0, b), (0, i)] m Q := by
  have d1 := vD_ge hk what a b
  have d2 := vD_le hk what a b
  have out : (0 ≤ i → vD V what a b = -1 ∨ 12 ≤ i) → ∀ m', frx [24, 25] [] m m' → vwB V t m' → Q (-1) m' := by
    intro hi m' f' b'
    have q := hQ m' f' b'
    by_cases z : 0 ≤ i ∧ vD V what a b ≠ -1
    · rw [if_pos z, pth_far hk z.2 (by have := hi z.1; omega)] at q
      exact q
    · rw [if_neg z] at q
      exact q
  refine sX9_placeInRow (sX10_within ⟨fun z => ⟨fun _ => out (fun _ => by omega) m frx_rf hb, fun z => absurd rfl z⟩, fun z => ⟨fun z2 => ⟨fun _ => out (fun _ => by omega) m frx_rf hb, fun z => absurd rfl z⟩, fun z2 => ⟨fun z => absurd z (by decide), fun _ => ?_⟩⟩⟩)
  refine c_sumOf hk hb w0 w1 (fun m1 f1 b1 => ?_)
  rw [vD_sym hk what b a]
  refine ⟨fun z3 => ?_, fun z3 => out (fun _ => ?_) m1 f1 b1⟩
  · have hr : vD V what a b ≠ -1 := by
      intro y
      rw [y] at z3
      exact absurd z3 (by decide)
    refine lup2 (n := i) (I := fun s m2 x => 0 ≤ s ∧ s ≤ i ∧ frx [24, 25] [] m m2 ∧ vwB V t m2 ∧ x = pth V what b a s.toNat) (G := fun s m2 x => GL iX9_placeInRow m2 30 [(2, 11), (0, what), (9, 0), (0, b), (0, i), (0, x), (0, s)] [] Q) ?_ ?_ 0 m1 a ⟨by decide, by omega, f1, b1, rfl⟩
    · rintro s m2 x hs ⟨s0, -, f2, b2, rfl⟩ K
      have nx : pth V what b a (s + 1).toNat = if pth V what b a s.toNat = -1 ∨ pth V what b a s.toNat = b then -1 else onw V what b (pth V what b a s.toNat) := by
        rw [show (s + 1).toNat = s.toNat + 1 by omega]
        rfl
      refine sX9_placeInRow_30 ?_
      rw [jw_id (x := s + 1) (by omega) (by omega)]
      refine ⟨fun y => absurd y (by omega), fun _ => ⟨fun y => ?_, fun y => ⟨fun y2 => c_nextPlace hk b2 w0 w1 (fun m3 f3 b3 => K m3 _ ⟨by omega, by omega, frx_tr f2 f3, b3, ?_⟩), fun y2 => K m2 _ ⟨by omega, by omega, f2, b2, ?_⟩⟩⟩⟩
      · rw [y]
        have q := hQ m2 f2 b2
        rw [if_pos ⟨by omega, hr⟩, show i.toNat = s.toNat + (i.toNat - s.toNat) by omega, pth_m1 y] at q
        exact q
      · rw [nx, if_neg (by rintro (q | q); exact y q; exact y2 q)]
      · rw [nx, if_pos (Or.inr (Classical.byContradiction y2))]
    · rintro s m2 x hs ⟨s0, s1, f2, b2, rfl⟩
      obtain rfl : s = i := by omega
      have q := hQ m2 f2 b2
      rw [if_pos ⟨by omega, hr⟩] at q
      exact sX9_placeInRow_30 ⟨fun _ => q, fun y => absurd (Int.le_refl _) y⟩
  · left
    unfold enc at z3
    split at z3
    · assumption
    · omega
/-- the reference behind lay -/
def rG (V : jM) (k : Int) (m : jM) : Prop := (m 139 69 = k ∧ 0 ≤ m 139 12 ∧ m 139 12 ≤ 3) ∧ vShR V m ∧ (∀ w, 0 ≤ w → w < 3 → ∀ a b, 0 ≤ a → a < 12 → 0 ≤ b → b < 12 → m 191 (lx w a b) = vD V w a b) ∧ vRf V m ∧ vRt V k m ∧ vRd V k m
theorem rG_lI {V m : jM} {k : Int} (h : rG V k m) : lI V m k 3 m := ⟨frx_rf, h.1.1, h.2.1, h.2.2.1⟩
theorem rG_fr {V m m' : jM} {k : Int} (h : rG V k m) (h1 : m' 139 69 = m 139 69) (h2 : m' 139 12 = m 139 12) (h3 : m' 139 44 = m 139 44) (h4 : m' 139 50 = m 139 50) (hf : agr (190 :: 191 :: vwDp) [] m m') : rG V k m' := by
  refine ⟨by rw [h1, h2]; exact h.1, ?_, ?_, vRf_fr h.2.2.2.1 h3 h4 (fun p hp => agr_row hf p (by simp only [List.mem_cons, List.not_mem_nil, or_false] at hp ⊢; omega)), vRt_fr h.2.2.2.2.1 (fun p hp => agr_row hf p (by simp only [List.mem_cons, List.not_mem_nil, or_false] at hp ⊢; omega)), vRd_fr h.2.2.2.2.2 (fun p hp => agr_row hf p (by simp only [List.mem_cons, List.not_mem_nil, or_false] at hp ⊢; omega))⟩
  · have := h.2.1
    unfold vShR at this ⊢
    rw [agr_row hf 190 (by decide)]
    exact this
  · rw [agr_row hf 191 (by decide)]
    exact h.2.2.1
theorem c_leastV {V m : jM} {Q : Int → jM → Prop} {k what a b : Int} (hr : rG V k m) (w0 : 0 ≤ what) (w1 : what < 3) (a0 : 0 ≤ a) (a1 : a < 12) (b0 : 0 ≤ b) (b1 : b < 12) (hQ : Q (vD V what a b) m) : ML iX11_leastOf [(2, 139), (0, what), (0, a), (0, b)] m Q := c_leastOf w0 w1 a0 a1 b0 b1 (by rw [hr.2.2.1 what w0 w1 a b a0 a1 b0 b1]; exact hQ)
theorem c_layG {V m : jM} {Q : Int → jM → Prop} {k : Int} (hk : vKf V) (ht : vKt V) (hr : vRf V m) (hrt : vRt V k m) (hrd : vRd V k m) (hx : 0 ≤ m 139 12 ∧ m 139 12 ≤ 3) (hf : frc m (V 0 5) = k) (hQ : ∀ m', frx [190, 191] [(139, 69)] m m' → rG V k m' → Q 0 m') : ML iX11_lay [(2, 139), (0, V 0 5), (0, V 0 6)] m Q := by
  refine c_lay hk ht hr hrt hx hf (fun m' hI => hQ m' hI.1 ⟨⟨hI.2.1, ?_⟩, hI.2.2.1, hI.2.2.2, ?_, ?_, ?_⟩)
  · rw [hI.1 139 12 (by decide) (by decide)]; exact hx
  · exact vRf_fr hr (hI.1 139 44 (by decide) (by decide)) (hI.1 139 50 (by decide) (by decide)) (fun p hp => agr_row (agr_of (D := [174, 175, 176, 177, 178, 179]) (DF := []) hI.1 (by decide)) p hp)
  · exact vRt_fr hrt (fun p hp => agr_row (agr_of (D := [147, 148, 154, 157, 159, 149, 150, 151, 152, 153, 155, 156, 158, 146]) (DF := []) hI.1 (by decide)) p hp)
  · exact vRd_fr hrd (fun p hp => agr_row (agr_of (D := [163, 164, 166, 167, 168, 169, 170, 171, 160, 161]) (DF := []) hI.1 (by decide)) p hp)
theorem c_onward {V m : jM} {Q : Int → jM → Prop} {k what b a : Int} (hk : vKt V) (hr : rG V k m) (w0 : 0 ≤ what) (w1 : what < 3) (a0 : 0 ≤ a) (a1 : a < 12) (b0 : 0 ≤ b) (b1 : b < 12) (hQ : Q (onw V what b a) m) : ML iX11_onward [(2, 139), (0, what), (0, a), (0, b)] m Q := by
  have hN := hk.1
  have rt := hr.2.2.2.2.1
  have r0 := rt.1
  refine sX11_onward ?_
  refine lup2 (n := V 0 1) (I := fun j m1 x => 0 ≤ j ∧ j ≤ V 0 1 ∧ m1 = m ∧ x = onL V what b a j.toNat) (G := fun j m1 x => GL iX11_onward m1 6 [(2, 139), (0, what), (0, a), (0, b), (0, x), (0, j), (9, 0), (9, 0), (9, 0)] [] Q) ?_ ?_ 0 m (-1) ⟨by decide, by omega, rfl, rfl⟩
  · rintro j m1 x hj ⟨j0, -, rfl, rfl⟩ K
    have hin := (onL_in hk what b a j.toNat (by omega)).1
    have nx : onL V what b a (j + 1).toNat = @ite _ (onC V what b a j ∧ (onL V what b a j.toNat = -1 ∨ vTo V j a < onL V what b a j.toNat)) (Classical.propDecidable _) (vTo V j a) (onL V what b a j.toNat) := by
      rw [show (j + 1).toNat = j.toNat + 1 by omega]
      simp only [onL]
      rw [Int.toNat_of_nonneg j0]
    have no : ¬ (onC V what b a j ∧ (onL V what b a j.toNat = -1 ∨ vTo V j a < onL V what b a j.toNat)) → GL iX11_onward m1 6 [(2, 139), (0, what), (0, a), (0, b), (0, onL V what b a j.toNat), (0, j + 1), (9, 0), (9, 0), (9, 0)] [] Q := fun z => K m1 _ ⟨by omega, by omega, rfl, by rw [nx, if_neg z]⟩
    have yes : (onC V what b a j ∧ (onL V what b a j.toNat = -1 ∨ vTo V j a < onL V what b a j.toNat)) → GL iX11_onward m1 6 [(2, 139), (0, what), (0, a), (0, b), (0, vTo V j a), (0, j + 1), (9, 0), (9, 0), (9, 0)] [] Q := fun z => K m1 _ ⟨by omega, by omega, rfl, by rw [nx, if_pos z]⟩
    have q := rt.2.1 j j0 (by omega)
    have l := vLen_bd hk (what := what) j0 hj
    have to := vTo_in hk (a := a) j0 hj
    have go : vOpen V what j → GL iX11_onward m1 90 [(2, 139), (0, what), (0, a), (0, b), (0, onL V what b a j.toNat), (0, j), (9, 0), (9, 0), (9, 0)] [(0, vTo V j a)] Q := by
      intro ho
      refine sX11_onward_90 ?_
      rw [jw_id (x := j + 1) (by omega) (by omega)]
      refine ⟨fun z => no (fun y => by have := y.1.2.1; omega), fun z => ?_⟩
      refine c_leastV hr w0 w1 (by omega) (by omega) b0 b1 ⟨fun z2 => no (fun y => by have := y.1.2.2.1; have := vD_ge hk what (vTo V j a) b; omega), fun z2 => ?_⟩
      refine c_weightOf rt hr.1.1 j0 (by omega) (c_leastV hr w0 w1 (by omega) (by omega) b0 b1 (c_leastV hr w0 w1 a0 a1 b0 b1 ?_))
      have d3 := vD_le hk what (vTo V j a) b
      rw [jw_id (x := vLen V what j + vD V what (vTo V j a) b) (by omega) (by omega)]
      refine ⟨fun z3 => ⟨fun z4 => yes ⟨⟨ho, by omega, by omega, z3⟩, Or.inl (by omega)⟩, fun z4 => ⟨fun z5 => no (fun y => ?_), fun z5 => yes ⟨⟨ho, by omega, by omega, z3⟩, Or.inr (by omega)⟩⟩⟩, fun z3 => no (fun y => z3 y.1.2.2.2)⟩
      rcases y.2 with q | q <;> omega
    refine sX11_onward_6 ?_
    rw [hr.1.1, r0.2.2.2.1, jw_id (x := j + 1) (by omega) (by omega)]
    refine ⟨r0.1, r0.2.1, fun z => absurd z (by omega), fun _ => c_isOpen rt hr.1.1 hr.2.1 j0 (by omega) (fun r h1 h0 => ⟨fun z => ?_, fun z => no (fun y => by have := h1 y.1.1; omega)⟩)⟩
    have ho : vOpen V what j := Classical.byContradiction (fun y => z (h0 y))
    have go := go ho
    unfold vTo at go
    rw [hr.1.1, jw_id (x := 24 * k) (by omega) (by omega), jw_id (x := 24 * k + j) (by omega) (by omega), q.1, q.2.1]
    refine ⟨by omega, by omega, by omega, by omega, fun y => ⟨fun y2 => ?_, fun y2 => ?_⟩, fun y => ?_⟩
    · rw [if_neg y, if_neg y2] at go; exact go
    · rw [if_neg y, if_pos (Classical.byContradiction y2)] at go; exact go
    · rw [if_pos (Classical.byContradiction y)] at go; exact go
  · rintro j m1 x hj ⟨j0, j1, rfl, rfl⟩
    obtain rfl : j = V 0 1 := by omega
    refine sX11_onward_6 ?_
    rw [hr.1.1, r0.2.2.2.1]
    exact ⟨r0.1, r0.2.1, fun _ => hQ, fun z => absurd (Int.le_refl _) z⟩
/-- the reference's loop along a row -/
theorem c_rowR {V m : jM} {Q : Int → jM → Prop} {k what b a f : Int} (hk : vKt V) (hr : rG V k m) (w0 : 0 ≤ what) (w1 : what < 3) (b0 : 0 ≤ b) (b1 : b < 12) (f0 : 0 ≤ f) (hd : vD V what a b ≠ -1) (hQ : Q (pth V what b a f.toNat) m) : GL iX11_row m 47 [(2, 139), (9, 0), (0, b), (0, what), (9, 0), (9, 0), (0, f), (0, a), (0, 0)] [] Q := by
  have hN := hk.1
  refine lup2 (n := f) (I := fun s m1 x => 0 ≤ s ∧ s ≤ f ∧ m1 = m ∧ x = pth V what b a s.toNat ∧ x ≠ -1) (G := fun s m1 x => GL iX11_row m1 47 [(2, 139), (9, 0), (0, b), (0, what), (9, 0), (9, 0), (0, f), (0, x), (0, s)] [] Q) ?_ ?_ 0 m a ⟨by decide, f0, rfl, rfl, ?_⟩
  · rintro s m1 x hs ⟨s0, -, rfl, rfl, hne⟩ K
    have s12 : s < 12 := by
      apply Classical.byContradiction
      intro z
      exact hne (pth_far hk hd (by omega))
    have hin := (pth_in hk hd s.toNat).resolve_left hne
    have nx : pth V what b a (s + 1).toNat = if pth V what b a s.toNat = -1 ∨ pth V what b a s.toNat = b then -1 else onw V what b (pth V what b a s.toNat) := by
      rw [show (s + 1).toNat = s.toNat + 1 by omega]
      rfl
    refine sX11_row_47 ?_
    rw [jw_id (x := s + 1) (by omega) (by omega)]
    refine ⟨fun y => absurd y (by omega), fun _ => ⟨fun y => c_onward hk hr w0 w1 hin.1 (by omega) b0 b1 (K m1 _ ⟨by omega, by omega, rfl, ?_, onw_ex hk hin.2.2 y⟩), fun y => ?_⟩⟩
    · rw [nx, if_neg (by rintro (q | q); exact hne q; exact y q)]
    · have e : pth V what b a (s.toNat + 1) = -1 := by
        rw [show s.toNat + 1 = (s + 1).toNat by omega, nx, if_pos (Or.inr (Classical.byContradiction y))]
      have := pth_m1 e (f.toNat - (s.toNat + 1))
      rw [show s.toNat + 1 + (f.toNat - (s.toNat + 1)) = f.toNat by omega] at this
      rw [this] at hQ
      exact hQ
  · rintro s m1 x hs ⟨s0, s1, rfl, rfl, hne⟩
    obtain rfl : s = f := by omega
    exact sX11_row_47 ⟨fun _ => hQ, fun y => absurd (Int.le_refl _) y⟩
  · have := (pth_in hk hd 0)
    intro z
    have q : 0 ≤ a ∧ a < V 0 0 ∧ 0 ≤ b ∧ b < V 0 0 := Classical.byContradiction (fun z => hd (vD_out hk z))
    omega

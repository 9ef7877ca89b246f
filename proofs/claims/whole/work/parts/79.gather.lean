/-! the class's fleet gathered -/
def aR (L : List (Int × Int × Int)) (m : jM) : Prop := m 106 3 = (L.length : Int) ∧ ∀ i : Int, 0 ≤ i → i < (L.length : Int) → m 108 i = (L.getD i.toNat (0, 0, 0)).1 ∧ m 109 i = (L.getD i.toNat (0, 0, 0)).2.1 ∧ m 110 i = (L.getD i.toNat (0, 0, 0)).2.2
theorem getD_app_l {α : Type} {L M : List α} {d : α} {i : Nat} (h : i < L.length) : (L ++ M).getD i d = L.getD i d := by
  rw [List.getD_eq_getElem?_getD, List.getD_eq_getElem?_getD, List.getElem?_append_left h]
theorem getD_app_r {α : Type} {L M : List α} {d x : α} : (L ++ x :: M).getD L.length d = x := by
  rw [List.getD_eq_getElem?_getD, List.getElem?_append_right (Nat.le_refl _), Nat.sub_self]
  rfl
theorem aR_snoc {L : List (Int × Int × Int)} {m m' : jM} {a b c : Int} (h : aR L m) (h3 : m' 106 3 = (L.length : Int) + 1) (h8 : ∀ i, m' 108 i = if i = (L.length : Int) then a else m 108 i) (h9 : ∀ i, m' 109 i = if i = (L.length : Int) then b else m 109 i) (h0 : ∀ i, m' 110 i = if i = (L.length : Int) then c else m 110 i) : aR (L ++ [(a, b, c)]) m' := by
  refine ⟨by rw [h3, List.length_append]; simp, fun i i0 i1 => ?_⟩
  rw [List.length_append] at i1
  simp only [List.length_singleton] at i1
  rw [h8, h9, h0]
  by_cases e : i = (L.length : Int)
  · rw [if_pos e, if_pos e, if_pos e, e, Int.toNat_natCast, getD_app_r]
    exact ⟨rfl, rfl, rfl⟩
  · rw [if_neg e, if_neg e, if_neg e, getD_app_l (by omega)]
    exact h.2 i i0 (by omega)
theorem fnL_get {l : List Int} {k : Nat} (h : k < l.length) : fnL l (k : Int) = l[k] := by
  unfold fnL
  rw [if_pos (by omega), Int.toNat_natCast, List.getD_eq_getElem?_getD, List.getElem?_eq_getElem h]
  rfl
theorem c_addRoutes {V m : jM} {Q : Int → jM → Prop} {s p t : Int} {L : List (Int × Int × Int)} (hp : jPl p) (hf : vKf V) (hk : vKt V) (hc : vCt V t m) (hP : cPlan V s p m) (hL : aR L m) (h18 : L.length + (plR V s).1.length ≤ 18) (hQ : ∀ m', (∀ q, q ≠ 106 → q ≠ 108 → q ≠ 109 → q ≠ 110 → m' q = m q) → (∀ i, i ≠ 3 → m' 106 i = m 106 i) → aR (L ++ (plR V s).1.map (fun y => (s, V 8 (stpI V s y 0), bh V s y (-1)))) m' → Q 0 m') : ML iX2_addRoutes [(2, 106), (2, p), (0, s), (2, t)] m Q := by
  have hN := hk.1
  have tx := hc.1
  have tr := jTx_rng tx
  have pr : 64 ≤ p ∧ p ≤ 92 := by unfold jPl at hp; omega
  have pm := plR_mem hf hk s
  refine sX2_addRoutes hp tx ?_
  generalize hl : (plR V s).1 = l at *
  refine lup (n := (l.length : Int)) (I := fun k m1 => 0 ≤ k ∧ k ≤ (l.length : Int) ∧ (∀ q, q ≠ 106 → q ≠ 108 → q ≠ 109 → q ≠ 110 → m1 q = m q) ∧ (∀ i, i ≠ 3 → m1 106 i = m 106 i) ∧ aR (L ++ (l.take k.toNat).map (fun y => (s, V 8 (stpI V s y 0), bh V s y (-1)))) m1) (G := fun k m1 => GL iX2_addRoutes m1 3 [(2, 106), (2, p), (0, s), (2, t), (0, k), (9, 0), (9, 0)] [] Q) ?_ ?_ 0 m ⟨by decide, by omega, fun q _ _ _ _ => rfl, fun i _ => rfl, by simpa using hL⟩
  · rintro k m1 hk1 ⟨k0, -, f1, g1, a1⟩ K
    have P1 : cPlan V s p m1 := cPlan_cg hP (fun q q0 q1 => f1 q (by omega) (by omega) (by omega) (by omega))
    have c1 : vCt V t m1 := vCt_fr hc (fun j j0 j1 => f1 _ (by omega) (by omega) (by omega) (by omega))
    have e4 : m1 p 4 = (l.length : Int) := by rw [P1.2.2.1.1, hl]
    have hkn : k.toNat < l.length := by omega
    have eset : m1 (p + 4) k = l[k.toNat] := by
      have h1 := P1.2.2.1.2.2 k k0 (by rw [hl]; exact hk1)
      rw [h1, hl]
      have h2 := fnL_get hkn
      rw [Int.toNat_of_nonneg k0] at h2
      exact h2
    have mem := pm.1 _ (List.getElem_mem hkn)
    have st := stp0 hk mem.1 mem.2.1 mem.2.2.1 mem.2.2.2
    have etot := a1.1
    rw [List.length_append, List.length_map, List.length_take, Nat.min_eq_left (by omega)] at etot
    have etk : l.take (k + 1).toNat = l.take k.toNat ++ [l[k.toNat]] := by
      rw [show (k + 1).toNat = k.toNat + 1 by omega, List.take_succ_eq_append_getElem hkn]
    generalize l[k.toNat] = y at *
    have l6 := pm.2
    refine sX2_addRoutes_3 hp tx ?_
    rw [e4, etot, eset, jw_id (x := k + 1) (by omega) (by omega)]
    refine ⟨fun z => absurd z (by omega), fun _ => ⟨fun z => absurd z (by omega), fun _ => ⟨k0, by omega, c_stopInRoute hp hk P1.1 ?_⟩⟩⟩
    have emin : m1 (p + 2) y = bh V s y (-1) := ((P1.1.2.2 y mem.1 mem.2.1).2.2.2 mem.2.2.1).1
    rw [etot, c1.2.2.2.2.2.1 _ st.1 st.2.1, emin, jw_id (x := ((L.length + k.toNat : Nat) : Int) + 1) (by omega) (by omega)]
    refine ⟨by omega, by omega, fun _ => ⟨st.1, by omega, by omega, by omega, by omega, by omega, by omega, by omega, K _ ⟨by omega, by omega, fun q a b c d => by rw [jup_ne a, jup_ne d, jup_ne c, jup_ne b]; exact f1 q a b c d, fun i i3 => by rw [jup_self, if_neg i3, jup_ne (by decide), jup_ne (by decide), jup_ne (by decide)]; exact g1 i i3, ?_⟩⟩, fun z => absurd (by omega) z⟩
    rw [etk, List.map_append, ← List.append_assoc]
    have elen : (((L ++ (l.take k.toNat).map (fun y => (s, V 8 (stpI V s y 0), bh V s y (-1)))).length : Nat) : Int) = ((L.length + k.toNat : Nat) : Int) := by
      rw [List.length_append, List.length_map, List.length_take, Nat.min_eq_left (by omega)]
    refine aR_snoc a1 (by rw [jup_s, elen]) (fun i => ?_) (fun i => ?_) (fun i => ?_)
    · rw [elen, jup_ne (by decide), jup_ne (by decide), jup_ne (by decide), jup_self]
    · rw [elen, jup_ne (by decide), jup_ne (by decide), jup_self, jup_ne (by decide)]
    · rw [elen, jup_ne (by decide), jup_self, jup_ne (by decide), jup_ne (by decide)]
  · rintro k m1 hk1 ⟨k0, k1, f1, g1, a1⟩
    obtain rfl : k = (l.length : Int) := by omega
    have P1 : cPlan V s p m1 := cPlan_cg hP (fun q q0 q1 => f1 q (by omega) (by omega) (by omega) (by omega))
    have e4 : m1 p 4 = (l.length : Int) := by rw [P1.2.2.1.1, hl]
    refine sX2_addRoutes_3 hp tx ?_
    rw [e4]
    rw [Int.toNat_natCast, List.take_length] at a1
    exact ⟨fun _ => hQ m1 f1 g1 a1, fun z => absurd (Int.le_refl _) z⟩
/-- what the followers' table tells of x, a school, a difference, y -/
def fcN (V : jM) (x s d y : Int) : Prop := fS V y = s ∧ vD V 2 (V 6 (fS V x)) (fP V y) ≠ -1 ∧ 0 ≤ V 7 (fS V y) - fB V y - V 7 (fS V x) - vD V 2 (V 6 (fS V x)) (fP V y) + 10 * (d - 4) ∧ (x < y ∨ V 7 (fS V x) ≠ V 7 (fS V y) + 10 * (d - 4))
/-- the fleet's rows of routes and schools -/
def flR (V : jM) (m : jM) : Prop := m 106 3 = flT V ∧ m 106 4 = V 0 2 ∧ (∀ i, 0 ≤ i → i < flT V → m 108 i = fS V i ∧ m 109 i = fP V i ∧ m 110 i = fB V i) ∧ ∀ s, 0 ≤ s → s < V 0 2 → m 111 s = V 6 s ∧ m 112 s = V 7 s
theorem flR_fr {V m m' : jM} (h : flR V m) (hf : ∀ q, q ∈ [(106 : Int), 108, 109, 110, 111, 112] → m' q = m q) : flR V m' := by
  unfold flR at *
  rw [hf 106 (by decide), hf 108 (by decide), hf 109 (by decide), hf 110 (by decide), hf 111 (by decide), hf 112 (by decide)]
  exact h
def fxI (V : jM) (x yy : Int) (m : jM) : Prop := ∀ x', 0 ≤ x' → x' < flT V → ∀ s, 0 ≤ s → s < V 0 2 → ∀ d, 0 ≤ d → d < 9 → (0 ≤ m 114 ((x' * 3 + s) * 9 + d) ∧ m 114 ((x' * 3 + s) * 9 + d) < 262144) ∧ ∀ y, 0 ≤ y → y < 32 → (tb (m 114 ((x' * 3 + s) * 9 + d)) y = true ↔ y < flT V ∧ (x' < x ∨ (x' = x ∧ y < yy)) ∧ fcN V x' s d y)
theorem c_noteFollower {V m : jM} {Q : Int → jM → Prop} {x y : Int} (hf : vKf V) (hk : vKt V) (hR : flR V m) (hI : fxI V x y m) (x0 : 0 ≤ x) (x1 : x < flT V) (y0 : 0 ≤ y) (y1 : y < flT V) (hv : vD V 2 (V 6 (fS V x)) (fP V y) ≠ -1) (hQ : ∀ m', (∀ q, q ≠ 114 → m' q = m q) → fxI V x (y + 1) m' → Q 0 m') : ML iX2_noteFollower [(2, 106), (0, x), (0, y), (0, V 7 (fS V y) - fB V y - V 7 (fS V x) - vD V 2 (V 6 (fS V x)) (fP V y))] m Q := by
  have hN := hk.1
  have t := flT_in hf hk
  have gx := flG_in hf hk x0 x1
  have gy := flG_in hf hk y0 y1
  have b1 := (hk.2.2.1 _ gx.1 gx.2.1).2.2
  have b2 := (hk.2.2.1 _ gy.1 gy.2.1).2.2
  have dl := vD_ge hk 2 (V 6 (fS V x)) (fP V y)
  have du := (vD_le hk 2 (V 6 (fS V x)) (fP V y)).2 rfl
  refine sX2_noteFollower ?_
  rw [(hR.2.2.1 y y0 y1).1, jw_id (x := x * 3) (by omega) (by omega), jw_id (x := x * 3 + fS V y) (by omega) (by omega), jw_id (x := (x * 3 + fS V y) * 9) (by omega) (by omega)]
  refine ⟨y0, by omega, ?_⟩
  generalize hTL : V 7 (fS V y) - fB V y - V 7 (fS V x) - vD V 2 (V 6 (fS V x)) (fP V y) = tl at *
  refine lup (n := 9) (I := fun d m1 => 0 ≤ d ∧ d ≤ 9 ∧ (∀ q, q ≠ 114 → m1 q = m q) ∧ (∀ z, z < (x * 3 + fS V y) * 9 ∨ (x * 3 + fS V y) * 9 + d ≤ z → m1 114 z = m 114 z) ∧ ∀ d', 0 ≤ d' → d' < d → (0 ≤ m1 114 ((x * 3 + fS V y) * 9 + d') ∧ m1 114 ((x * 3 + fS V y) * 9 + d') < 262144) ∧ ∀ w, 0 ≤ w → w < 32 → (tb (m1 114 ((x * 3 + fS V y) * 9 + d')) w = true ↔ tb (m 114 ((x * 3 + fS V y) * 9 + d')) w = true ∨ (w = y ∧ 0 ≤ tl + 10 * (d' - 4) ∧ (x < y ∨ V 7 (fS V x) ≠ V 7 (fS V y) + 10 * (d' - 4))))) (G := fun d m1 => GL iX2_noteFollower m1 18 [(2, 106), (0, x), (0, y), (0, tl), (0, (x * 3 + fS V y) * 9), (0, d), (9, 0), (9, 0)] [] Q) ?_ ?_ 0 m ⟨by decide, by decide, fun q _ => rfl, fun z _ => rfl, fun d' h0 h1 => by omega⟩
  · rintro d m1 hd ⟨d0, -, f1, o1, h1⟩ K
    have R1 := flR_fr hR (fun q hq => f1 q (by rintro rfl; revert hq; decide))
    have old := hI x x0 x1 (fS V y) gy.1 gy.2.1 d d0 hd
    have ec : m1 114 ((x * 3 + fS V y) * 9 + d) = m 114 ((x * 3 + fS V y) * 9 + d) := o1 _ (by omega)
    have sh := jshl1_in (k := y) y0 (by omega)
    have sh2 : jshl 1 y < 262144 := by
      rw [jshl1 y y0 (by omega)]
      have : (2 : Int) ^ y.toNat ≤ 2 ^ 17 := p2le (by omega)
      omega
    have o := jor18 old.1.1 old.1.2 (by omega) sh2
    have yes : 0 ≤ tl + 10 * (d - 4) → (x < y ∨ V 7 (fS V x) ≠ V 7 (fS V y) + 10 * (d - 4)) → GL iX2_noteFollower (jup m1 114 ((x * 3 + fS V y) * 9 + d) (jor (m 114 ((x * 3 + fS V y) * 9 + d)) (jshl 1 y))) 18 [(2, 106), (0, x), (0, y), (0, tl), (0, (x * 3 + fS V y) * 9), (0, d + 1), (9, 0), (9, 0)] [] Q := by
      intro c1 c2
      refine K _ ⟨by omega, by omega, fun q hq => by rw [jup_ne hq]; exact f1 q hq, fun z hz => by rw [jup_self, if_neg (by omega)]; exact o1 z (by omega), fun d' h0 hd1 => ?_⟩
      rw [jup_self]
      by_cases e : d' = d
      · rw [if_pos (by omega), e]
        refine ⟨o.1, fun w w0 w1 => ?_⟩
        rw [o.2 w w0 w1, tb_shl1 y0 (by omega) w0, decide_eq_true_iff]
        exact ⟨fun u => u.elim Or.inl (fun u => Or.inr ⟨u, c1, c2⟩), fun u => u.elim Or.inl (fun u => Or.inr u.1)⟩
      · rw [if_neg (by omega)]
        exact h1 d' h0 (by omega)
    have no : ¬ (0 ≤ tl + 10 * (d - 4) ∧ (x < y ∨ V 7 (fS V x) ≠ V 7 (fS V y) + 10 * (d - 4))) → GL iX2_noteFollower m1 18 [(2, 106), (0, x), (0, y), (0, tl), (0, (x * 3 + fS V y) * 9), (0, d + 1), (9, 0), (9, 0)] [] Q := by
      intro c
      refine K _ ⟨by omega, by omega, f1, fun z hz => o1 z (by omega), fun d' h0 hd1 => ?_⟩
      by_cases e : d' = d
      · rw [e, ec]
        exact ⟨old.1, fun w w0 w1 => ⟨Or.inl, fun u => u.elim id (fun u => absurd u.2 c)⟩⟩
      · exact h1 d' h0 (by omega)
    have go : ∀ a : Int, (a ≠ 0 ↔ V 7 (fS V x) = V 7 (fS V y) + 10 * (d - 4)) → GL iX2_noteFollower m1 67 [(2, 106), (0, x), (0, y), (0, tl), (0, (x * 3 + fS V y) * 9), (0, d), (0, 10 * (d - 4)), (9, 0)] [(0, a)] Q := by
      intro a ha
      refine sX2_noteFollower_67 ?_
      rw [jw_id (x := tl + 10 * (d - 4)) (by omega) (by omega), jw_id (x := d + 1) (by omega) (by omega), jw_id (x := (x * 3 + fS V y) * 9 + d) (by omega) (by omega), ec]
      refine ⟨fun z => no (by omega), fun z => ⟨fun z2 => ⟨by omega, by omega, by omega, by omega, yes (by omega) (Or.inl z2)⟩, fun z2 => ⟨fun z3 => no (fun u => ?_), fun z3 => ⟨by omega, by omega, by omega, by omega, yes (by omega) (Or.inr (fun u => z3 (ha.mpr u)))⟩⟩⟩⟩
      rcases u.2 with v | v
      · omega
      · exact v (ha.mp z3)
    refine sX2_noteFollower_18 ?_
    rw [(R1.2.2.1 x x0 x1).1, (R1.2.2.1 y y0 y1).1, (R1.2.2.2 _ gx.1 gx.2.1).2, (R1.2.2.2 _ gy.1 gy.2.1).2, jw_id (x := d - 4) (by omega) (by omega), jw_id (x := (d - 4) * 10) (by omega) (by omega), show (d - 4) * 10 = 10 * (d - 4) by omega, jw_id (x := V 7 (fS V y) + 10 * (d - 4)) (by omega) (by omega)]
    exact ⟨fun z => absurd z (by omega), fun _ => ⟨x0, by omega, gx.1, by omega, y0, by omega, gy.1, by omega, fun z => go 0 ⟨fun u => absurd rfl u, fun u => absurd u z⟩, fun z => go 1 ⟨fun _ => Classical.byContradiction z, fun _ => by decide⟩⟩⟩
  · rintro d m1 hd ⟨d0, d1, f1, o1, h1⟩
    obtain rfl : d = 9 := by omega
    refine sX2_noteFollower_18 ⟨fun _ => hQ m1 f1 (fun x' x0' x1' s s0 s1 d d0' d1' => ?_), fun z => absurd hd z⟩
    have old := hI x' x0' x1' s s0 s1 d d0' d1'
    by_cases e : x' = x ∧ s = fS V y
    · rw [e.1, e.2]
      rw [e.1, e.2] at old
      have n1 := h1 d d0' d1'
      refine ⟨n1.1, fun w w0 w1 => ?_⟩
      rw [n1.2 w w0 w1, old.2 w w0 w1]
      constructor
      · rintro (⟨a, b, c⟩ | ⟨a, b, c⟩)
        · exact ⟨a, by omega, c⟩
        · rw [a]
          exact ⟨y1, by omega, rfl, hv, by rw [hTL]; exact b, c⟩
      · rintro ⟨a, b, c⟩
        by_cases ew : w = y
        · refine Or.inr ⟨ew, ?_⟩
          rw [ew] at c
          obtain ⟨-, -, c3, c4⟩ := c
          rw [hTL] at c3
          exact ⟨c3, c4⟩
        · exact Or.inl ⟨a, by omega, c⟩
    · have ec : m1 114 ((x' * 3 + s) * 9 + d) = m 114 ((x' * 3 + s) * 9 + d) := o1 _ (by omega)
      rw [ec]
      refine ⟨old.1, fun w w0 w1 => ?_⟩
      rw [old.2 w w0 w1]
      constructor
      · rintro ⟨a, b, c⟩; exact ⟨a, by omega, c⟩
      · rintro ⟨a, b, c⟩
        refine ⟨a, ?_, c⟩
        by_cases ew : w = y
        · rw [ew] at c
          have := c.1
          omega
        · omega
theorem c_measureF {V m : jM} {Q : Int → jM → Prop} {k : Int} (hf : vKf V) (hk : vKt V) (hg : vwG V k m) (k0 : 0 ≤ k) (k3 : k < 3) (hR : flR V m) (hQ : ∀ m', (∀ q, q ≠ 114 → q ≠ 24 → q ≠ 25 → m' q = m q) → vwG V k m' → flD V m' → Q 0 m') : ML iX2_measure [(2, 106), (2, 11)] m Q := by
  have hN := hk.1
  have t := flT_in hf hk
  refine sX2_measure (c_fill (n := 486) at_114 (by decide) (fun m i x h => ny_114 h) ?_)
  have bits0 : ∀ z, 0 ≤ z → z < 486 → jfill m 114 ((486 : Nat) : Int) 0 114 z = 0 := fun z z0 z1 => jfill_at z0 (show z < ((486 : Nat) : Int) from z1)
  refine lup (n := flT V) (I := fun x m1 => 0 ≤ x ∧ x ≤ flT V ∧ (∀ q, q ≠ 114 → q ≠ 24 → q ≠ 25 → m1 q = m q) ∧ vwG V k m1 ∧ fxI V x 0 m1) (G := fun x m1 => GL iX2_measure m1 10 [(2, 106), (2, 11), (0, x), (9, 0), (9, 0)] [] Q) ?_ ?_ 0 _ ⟨by decide, t.1, fun q h114 _ _ => jfill_ne h114, vwG_lo hg k0 k3 (fun q hq => jfill_ne (by omega)), fun x' x0 x1 s s0 s1 d d0 d1 => ?_⟩
  · rintro x m1 hx ⟨x0, -, f1, g1, i1⟩ K
    have R1 := flR_fr hR (fun q hq => f1 q (by rintro rfl; revert hq; decide) (by rintro rfl; revert hq; decide) (by rintro rfl; revert hq; decide))
    refine sX2_measure_10 ?_
    rw [R1.1]
    refine ⟨fun z => absurd z (by omega), fun _ => ?_⟩
    refine lup (n := flT V) (I := fun y m2 => 0 ≤ y ∧ y ≤ flT V ∧ (∀ q, q ≠ 114 → q ≠ 24 → q ≠ 25 → m2 q = m q) ∧ vwG V k m2 ∧ fxI V x y m2) (G := fun y m2 => GL iX2_measure m2 20 [(2, 106), (2, 11), (0, x), (0, y), (9, 0)] [] Q) ?_ ?_ 0 m1 ⟨by decide, t.1, f1, g1, i1⟩
    · rintro y m2 hy ⟨y0, -, f2, g2, i2⟩ K2
      have R2 := flR_fr hR (fun q hq => f2 q (by rintro rfl; revert hq; decide) (by rintro rfl; revert hq; decide) (by rintro rfl; revert hq; decide))
      have gx := flG_in hf hk x0 hx
      have gy := flG_in hf hk y0 hy
      refine sX2_measure_20 ?_
      rw [R2.1, (R2.2.2.1 x x0 hx).1, (R2.2.2.1 y y0 hy).2.1, (R2.2.2.2 _ gx.1 gx.2.1).1, jw_id (x := y + 1) (by omega) (by omega)]
      refine ⟨fun z => absurd z (by omega), fun _ => ⟨x0, by omega, gx.1, by omega, y0, by omega, c_sumOf hk g2.2.1 (by decide) (by decide) (fun m3 f3 b3 => ?_)⟩⟩
      have r3 : ∀ q, q ≠ 24 → q ≠ 25 → m3 q = m2 q := fun q h24 h25 => frx_row f3 q (by simp [h24, h25]) (by intro z hz; cases hz)
      have g3 := vwG_sums g2 b3 f3 k0
      have R3 := flR_fr R2 (fun q hq => r3 q (by rintro rfl; revert hq; decide) (by rintro rfl; revert hq; decide))
      have i3 : fxI V x y m3 := by
        unfold fxI at i2 ⊢
        rw [r3 114 (by decide) (by decide)]; exact i2
      have f3' : ∀ q, q ≠ 114 → q ≠ 24 → q ≠ 25 → m3 q = m q := fun q a b c => by rw [r3 q b c]; exact f2 q a b c
      have dl := vD_ge hk 2 (V 6 (fS V x)) (fP V y)
      have du := (vD_le hk 2 (V 6 (fS V x)) (fP V y)).2 rfl
      have b1 := (hk.2.2.1 _ gx.1 gx.2.1).2.2
      have b2 := (hk.2.2.1 _ gy.1 gy.2.1).2.2
      by_cases hv : vD V 2 (V 6 (fS V x)) (fP V y) = -1
      · have e : enc (vD V 2 (V 6 (fS V x)) (fP V y)) = 268435456 := by unfold enc; rw [if_pos hv]
        rw [e]
        refine ⟨fun _ => K2 m3 ⟨by omega, by omega, f3', g3, fun x' x0' x1' s s0 s1 d d0 d1 => ⟨(i3 x' x0' x1' s s0 s1 d d0 d1).1, fun w w0 w1 => ?_⟩⟩, fun z => absurd (Int.le_refl _) z⟩
        rw [(i3 x' x0' x1' s s0 s1 d d0 d1).2 w w0 w1]
        constructor
        · rintro ⟨a, b, c⟩; exact ⟨a, by omega, c⟩
        · rintro ⟨a, b, c⟩
          refine ⟨a, ?_, c⟩
          by_cases ew : x' = x ∧ w = y
          · rw [ew.1, ew.2] at c
            exact absurd hv c.2.1
          · omega
      · have e : enc (vD V 2 (V 6 (fS V x)) (fP V y)) = vD V 2 (V 6 (fS V x)) (fP V y) := by unfold enc; rw [if_neg hv]
        rw [e, (R3.2.2.1 x x0 hx).1, (R3.2.2.1 y y0 hy).1, (R3.2.2.1 y y0 hy).2.2, (R3.2.2.2 _ gx.1 gx.2.1).2, (R3.2.2.2 _ gy.1 gy.2.1).2, jw_id (x := V 7 (fS V y) - fB V y) (by omega) (by omega), jw_id (x := V 7 (fS V y) - fB V y - V 7 (fS V x)) (by omega) (by omega), jw_id (x := V 7 (fS V y) - fB V y - V 7 (fS V x) - vD V 2 (V 6 (fS V x)) (fP V y)) (by omega) (by omega)]
        refine ⟨fun z => absurd z (by omega), fun _ => ⟨y0, by omega, gy.1, by omega, y0, by omega, x0, by omega, gx.1, by omega, c_noteFollower hf hk R3 i3 x0 hx y0 hy hv (fun m4 f4 i4 => K2 m4 ⟨by omega, by omega, fun q a b c => by rw [f4 q a]; exact f3' q a b c, vwG_lo g3 k0 k3 (fun q hq => f4 q (by omega)), i4⟩)⟩⟩
    · rintro y m2 hy ⟨y0, y1, f2, g2, i2⟩
      obtain rfl : y = flT V := by omega
      have R2 := flR_fr hR (fun q hq => f2 q (by rintro rfl; revert hq; decide) (by rintro rfl; revert hq; decide) (by rintro rfl; revert hq; decide))
      refine sX2_measure_20 ?_
      rw [R2.1, jw_id (x := x + 1) (by omega) (by omega)]
      refine ⟨fun _ => K m2 ⟨by omega, by omega, f2, g2, fun x' x0' x1' s s0 s1 d d0 d1 => ⟨(i2 x' x0' x1' s s0 s1 d d0 d1).1, fun w w0 w1 => ?_⟩⟩, fun z => absurd (Int.le_refl _) z⟩
      rw [(i2 x' x0' x1' s s0 s1 d d0 d1).2 w w0 w1]
      constructor
      · rintro ⟨a, b, c⟩; exact ⟨a, by omega, c⟩
      · rintro ⟨a, b, c⟩; exact ⟨a, by omega, c⟩
  · rintro x m1 hx ⟨x0, x1, f1, g1, i1⟩
    obtain rfl : x = flT V := by omega
    have R1 := flR_fr hR (fun q hq => f1 q (by rintro rfl; revert hq; decide) (by rintro rfl; revert hq; decide) (by rintro rfl; revert hq; decide))
    refine sX2_measure_10 ?_
    rw [R1.1]
    refine ⟨fun _ => hQ m1 f1 g1 ⟨R1.1, R1.2.1, fun i i0 i1' => (R1.2.2.1 i i0 i1').1, fun x' x0' x1' s s0 s1 d d0 d1 => ⟨(i1 x' x0' x1' s s0 s1 d d0 d1).1, fun w w0 w1 => ?_⟩⟩, fun z => absurd (Int.le_refl _) z⟩
    rw [(i1 x' x0' x1' s s0 s1 d d0 d1).2 w w0 w1]
    unfold fcN
    exact ⟨fun u => ⟨u.1, u.2.2⟩, fun u => ⟨u.1, Or.inl x1', u.2⟩⟩
  · rw [bits0 _ (by omega) (by omega)]
    refine ⟨by decide, fun w w0 w1 => ?_⟩
    rw [tb_zero]
    exact ⟨fun z => absurd z (by decide), fun ⟨a, b, c⟩ => by omega⟩

/-! taps that were lent -/
def lnV (V : jM) (a b x y : Int) : Prop := V 0 3 ≤ a ∨ V 0 3 ≤ b ∨ vD V 2 (V 8 a) (V 8 b) = -1 ∨ (x - y < vD V 2 (V 8 a) (V 8 b) ∧ y - x < vD V 2 (V 8 a) (V 8 b))
def tpK (m : jM) (n i : Int) : Prop := vw m 0 0 n 10 i = 5 ∧ vLv (vw m 0 0 n) i
def lnt (m : jM) (n i j : Int) : Prop := tpK m n i ∧ tpK m n j ∧ vw m 0 0 n 13 i = vw m 0 0 n 13 j ∧ vw m 0 0 n 11 i = vw m 0 0 n 11 j ∧ lkK m (vw m 0 0 n 13 i) n ∧ lnV (vv m (vw m 0 0 n 13 i) n) (vw m 0 0 n 12 i) (vw m 0 0 n 12 j) (vw m 0 0 n 14 i) (vw m 0 0 n 14 j)
theorem lnt_cg {m m' : jM} (h : agr kpD kpF m m') (n i j : Int) : lnt m' n i j ↔ lnt m n i j := by
  unfold lnt tpK
  rw [vw_cg (agr_sub h (by decide) (by decide)), vv_cg h, lkK_cg h]
theorem tpK_cg {m m' : jM} (h : agr kpD kpF m m') (n i : Int) : tpK m' n i ↔ tpK m n i := by
  unfold tpK
  rw [vw_cg (agr_sub h (by decide) (by decide))]
noncomputable def lnS (m : jM) (n w i j : Int) (s : Int × Int × Int) : Int × Int × Int := @ite _ (lnt m n i j) (Classical.propDecidable _) (s.1 + 1, if s.1 = w then (i, j) else s.2) s
noncomputable def lnJ (m : jM) (n w i : Int) (s : Int × Int × Int) : Nat → Int × Int × Int
  | 0 => s
  | d + 1 => lnS m n w i (i + 1 + d) (lnJ m n w i s d)
noncomputable def lnI (m : jM) (n w : Int) : Nat → Int × Int × Int
  | 0 => (0, -1, -1)
  | i + 1 => lnJ m n w i (lnI m n w i) (n - (i + 1)).toNat
theorem lnS_cg {m m' : jM} (h : agr kpD kpF m m') (n w i j : Int) (s : Int × Int × Int) : lnS m' n w i j s = lnS m n w i j s := by
  unfold lnS
  by_cases q : lnt m n i j
  · rw [if_pos q, if_pos ((lnt_cg h n i j).mpr q)]
  · rw [if_neg q, if_neg (fun w => q ((lnt_cg h n i j).mp w))]
theorem lnJ_cg {m m' : jM} (h : agr kpD kpF m m') (n w i : Int) (s : Int × Int × Int) : ∀ d, lnJ m' n w i s d = lnJ m n w i s d := by
  intro d
  induction d with
  | zero => rfl
  | succ d ih => simp only [lnJ]; rw [ih, lnS_cg h]
theorem lnI_cg {m m' : jM} (h : agr kpD kpF m m') (n w : Int) : ∀ i, lnI m' n w i = lnI m n w i := by
  intro i
  induction i with
  | zero => rfl
  | succ i ih => simp only [lnI]; rw [ih, lnJ_cg h]
theorem lnJ_no {m : jM} {n w i : Int} {s : Int × Int × Int} (h : ¬ tpK m n i) : ∀ d, lnJ m n w i s d = s := by
  intro d
  induction d with
  | zero => rfl
  | succ d ih =>
    simp only [lnJ]
    rw [ih]
    unfold lnS
    rw [if_neg (fun q => h q.1)]
theorem lnS_bd {m : jM} {n w i j : Int} {s : Int × Int × Int} : s.1 ≤ (lnS m n w i j s).1 ∧ (lnS m n w i j s).1 ≤ s.1 + 1 := by
  unfold lnS
  split
  · exact ⟨by simp only; omega, by simp only; omega⟩
  · exact ⟨Int.le_refl _, by omega⟩
theorem lnJ_bd {m : jM} {n w i : Int} {s : Int × Int × Int} : ∀ d : Nat, s.1 ≤ (lnJ m n w i s d).1 ∧ (lnJ m n w i s d).1 ≤ s.1 + d := by
  intro d
  induction d with
  | zero => exact ⟨Int.le_refl _, by simp only [lnJ]; omega⟩
  | succ d ih =>
    have := lnS_bd (m := m) (n := n) (w := w) (i := i) (j := i + 1 + d) (s := lnJ m n w i s d)
    simp only [lnJ]
    omega
theorem lnI_bd {m : jM} {n w : Int} (hn : n ≤ 100) : ∀ i : Nat, 0 ≤ (lnI m n w i).1 ∧ (lnI m n w i).1 ≤ 100 * i := by
  intro i
  induction i with
  | zero => exact ⟨Int.le_refl _, by simp only [lnI]; omega⟩
  | succ i ih =>
    have := lnJ_bd (m := m) (n := n) (w := w) (i := i) (s := lnI m n w i) (n - (i + 1)).toNat
    simp only [lnI]
    omega
/-- the count is the same, whatever pair is wanted -/
theorem lnJ_w {m : jM} {n w w' i : Int} {s s' : Int × Int × Int} (h : s.1 = s'.1) : ∀ d, (lnJ m n w i s d).1 = (lnJ m n w' i s' d).1 := by
  intro d
  induction d with
  | zero => exact h
  | succ d ih =>
    simp only [lnJ, lnS]
    split
    · simp only; rw [ih]
    · exact ih
theorem lnI_w {m : jM} {n w w' : Int} : ∀ i, (lnI m n w i).1 = (lnI m n w' i).1 := by
  intro i
  induction i with
  | zero => rfl
  | succ i ih => simp only [lnI]; exact lnJ_w ih _
/-- not reached: none -/
theorem lnJ_un {m : jM} {n w i : Int} {s : Int × Int × Int} (h : s.1 ≤ w → s.2 = (-1, -1)) : ∀ d, (lnJ m n w i s d).1 ≤ w → (lnJ m n w i s d).2 = (-1, -1) := by
  intro d
  induction d with
  | zero => exact h
  | succ d ih =>
    simp only [lnJ, lnS]
    split
    · intro q
      simp only at q ⊢
      rw [if_neg (by omega)]
      exact ih (by omega)
    · exact ih
theorem lnI_un {m : jM} {n w : Int} : ∀ i, (lnI m n w i).1 ≤ w → (lnI m n w i).2 = (-1, -1) := by
  intro i
  induction i with
  | zero => exact fun _ => rfl
  | succ i ih => simp only [lnI]; exact lnJ_un ih _
/-! frames -/
theorem tnZ_tr {K K' : Int} {m m1 m2 : jM} (h : tnZ K m m1) (h2 : tnZ K' m1 m2) (k0 : 0 ≤ K) (k1 : 0 ≤ K') : tnZ (K + K') m m2 := by
  unfold tnZ at *
  rcases h with a | a <;> rcases h2 with b | b
  · exact Or.inl ⟨b.1.trans a.1, b.2.1.trans a.2.1, b.2.2.1.trans a.2.2.1, b.2.2.2.trans a.2.2.2⟩
  · right; rw [← a.1]; omega
  · right; rw [b.1]; omega
  · right; omega
theorem qF_tr {K K' : Int} {m m1 m2 : jM} (h : qOutF K m m1) (h2 : qOutF K' m1 m2) (k0 : 0 ≤ K) (k1 : 0 ≤ K') : qOutF (K + K') m m2 := ⟨h2.1, agr_tr h.2.1 h2.2.1, tnZ_tr h.2.2.1 h2.2.2.1 k0 k1, h2.2.2.2⟩
theorem qF_mo {K K' : Int} {m m1 : jM} (h : qOutF K m m1) (hk : K ≤ K') : qOutF K' m m1 := ⟨h.1, h.2.1, h.2.2.1.elim Or.inl (fun z => Or.inr (by omega)), h.2.2.2⟩
theorem qF_rf {m : jM} (h : qI m) (hI : plI m) (hF : flI m) : qOutF 0 m m := qOutP_F hF (qOut_P hI (qOut_rf h))
theorem qF_qI {K : Int} {m m1 : jM} (h : qI m) (g : qOutF K m m1) (hs : m 11 5 + K ≤ 20000000) (k0 : 0 ≤ K) : qI m1 := by
  refine ⟨fcInv_cg (agr_sub g.2.1 (by decide) (by decide)) h.1, kp_tx g.2.1 h.2.1, g.1, ?_⟩
  rcases g.2.2.1 with a | a
  · rw [a.1]; omega
  · omega
theorem vwR_fr {m m2 : jM} (h : vwR m) (hx : m 139 12 ≤ 3) (hp : ∀ p, p ≠ 0 → p < 139 → m2 p = m p) (hk : agr kpD kpF m m2) : vwR m2 := by
  unfold vwR at *
  have e11 : m2 11 = m 11 := hp 11 (by decide) (by decide)
  rw [e11]
  rcases h with a | a
  · exact Or.inl a
  · right
    refine ⟨a.1, ?_, ?_⟩
    · rw [agr_at hk 139 12 (by decide), agr_at hk 139 44 (by decide)]; exact a.2.1
    · rw [vw_cg (agr_sub hk (by decide) (by decide))]
      exact vwG_fr a.2.2 (fun i _ => by rw [e11]) (fun p hq => hp p (by simp only [List.mem_cons, List.not_mem_nil, or_false] at hq; omega) (by simp only [List.mem_cons, List.not_mem_nil, or_false] at hq; omega)) (fun j j0 j1 => hp _ (by omega) (by omega)) (vCf_fr a.2.2.2.1.2.2.1 (fun p hq => hp p (by simp only [List.mem_cons, List.not_mem_nil, or_false] at hq; omega) (by simp only [List.mem_cons, List.not_mem_nil, or_false] at hq; omega)))
/-- fields of the class and of the reference alone -/
theorem qF_0 {K : Int} {m m1 m2 : jM} (g : qOutF K m m1) (hx : m1 139 12 ≤ 3) (hp : ∀ p, p ≠ 0 → p < 139 → m2 p = m1 p) (hk : agr kpD kpF m1 m2) : qOutF K m m2 := by
  have e11 : m2 11 = m1 11 := hp 11 (by decide) (by decide)
  refine ⟨vwR_fr g.1 hx hp hk, agr_tr g.2.1 hk, by unfold tnZ; rw [e11]; exact g.2.2.1, plI_tn2 g.2.2.2.1 hk (fun p _ _ => hp p (by omega) (by omega)) e11, flI_tn (K := 0) g.2.2.2.2 hk ⟨fun p _ _ => hp p (by omega) (by omega), by rw [e11]; exact Or.inl ⟨rfl, rfl, rfl, rfl⟩⟩⟩
/-! the class finds what was lent -/
theorem c_knownTap {m m1 : jM} {Q : Int → jM → Prop} {n i : Int} (h : qI m) (ha : agr kpD kpF m m1) (n0 : 0 ≤ n) (n1 : n ≤ m 139 44) (i0 : 0 ≤ i) (i1 : i < n) (hQ : ∀ r, (tpK m n i → r = 1) → (¬ tpK m n i → r = 0) → Q r m1) : ML iX1_isKnown [(2, 13), (0, i), (0, 5), (0, n)] m1 Q :=
  c_isKnownF (V := vw m 0 0 n) (vCf_fr (vw_f h.1 (k := 0) (day := 0) (by decide) (by decide) n0 n1).2.2 (fun p hp => agr_row ha p (by simp only [List.mem_cons, List.not_mem_nil, or_false] at hp ⊢; omega))) i0 i1 hQ
theorem tp_row {m m1 : jM} {n i : Int} (h : qI m) (ha : agr kpD kpF m m1) (n0 : 0 ≤ n) (n1 : n ≤ m 139 44) (i0 : 0 ≤ i) (i1 : i < n) : (m1 14 i = vw m 0 0 n 11 i ∧ m1 15 i = vw m 0 0 n 12 i ∧ m1 16 i = vw m 0 0 n 13 i ∧ m1 17 i = vw m 0 0 n 14 i) ∧ (m1 174 i = vw m 0 0 n 10 i ∧ m1 175 i = vw m 0 0 n 11 i ∧ m1 176 i = vw m 0 0 n 12 i ∧ m1 177 i = vw m 0 0 n 13 i ∧ m1 178 i = vw m 0 0 n 14 i) := by
  have f := vw_f h.1 (k := 0) (day := 0) (by decide) (by decide) n0 n1
  have c := f.2.2.2.1 i i0 i1
  have r := f.2.1.2.1 i i0 i1
  rw [agr_row ha 14 (by decide), agr_row ha 15 (by decide), agr_row ha 16 (by decide), agr_row ha 17 (by decide), agr_row ha 174 (by decide), agr_row ha 175 (by decide), agr_row ha 176 (by decide), agr_row ha 177 (by decide), agr_row ha 178 (by decide)]
  exact ⟨⟨c.2.1, c.2.2.1, c.2.2.2.1, c.2.2.2.2.1⟩, r.1, r.2.1, r.2.2.1, r.2.2.2.1, r.2.2.2.2⟩
/-- a tap's stop, day, minute -/
theorem tp_in {m : jM} {n i : Int} (h : qI m) (n0 : 0 ≤ n) (n1 : n ≤ m 139 44) (i0 : 0 ≤ i) (i1 : i < n) (ht : tpK m n i) : 0 ≤ vw m 0 0 n 12 i ∧ vw m 0 0 n 12 i < 6 ∧ 0 ≤ vw m 0 0 n 13 i ∧ vw m 0 0 n 13 i < 365 ∧ 0 ≤ vw m 0 0 n 14 i ∧ vw m 0 0 n 14 i < 1440 := by
  have f := vw_f h.1 (k := 0) (day := 0) (by decide) (by decide) n0 n1
  have c := (f.1.2.1 i i0 i1).1
  have k := ht.1
  unfold fcVal at c
  omega
theorem c_areAlike {m m1 : jM} {Q : Int → jM → Prop} {n i j : Int} (h : qI m) (ha : agr kpD kpF m m1) (n0 : 0 ≤ n) (n1 : n ≤ m 139 44) (i0 : 0 ≤ i) (i1 : i < n) (j0 : 0 ≤ j) (j1 : j < n) (hQ : ∀ r, (vw m 0 0 n 13 i = vw m 0 0 n 13 j ∧ vw m 0 0 n 11 i = vw m 0 0 n 11 j ∧ tpK m n j → r = 1) → (¬ (vw m 0 0 n 13 i = vw m 0 0 n 13 j ∧ vw m 0 0 n 11 i = vw m 0 0 n 11 j ∧ tpK m n j) → r = 0) → Q r m1) : ML iX1_areAlikeTaps [(2, 13), (0, i), (0, j), (0, n)] m1 Q := by
  have t := h.1.1.1
  have ri := (tp_row h ha n0 n1 i0 i1).1
  have rj := (tp_row h ha n0 n1 j0 j1).1
  refine sX1_areAlikeTaps ?_
  rw [ri.1, ri.2.2.1, rj.1, rj.2.2.1]
  refine ⟨i0, by omega, j0, by omega, fun z => hQ 0 (fun w => absurd w.1 z) (fun _ => rfl), fun z => ⟨i0, by omega, j0, by omega, fun z2 => hQ 0 (fun w => absurd w.2.1 z2) (fun _ => rfl), fun z2 => c_knownTap h ha n0 n1 j0 j1 (fun r h1 h0 => ⟨fun z3 => hQ 0 (fun w => ?_) (fun _ => rfl), fun z3 => hQ 1 (fun _ => rfl) (fun w => absurd ⟨Classical.byContradiction z, Classical.byContradiction z2, Classical.byContradiction (fun w3 => z3 (h0 w3))⟩ w)⟩)⟩⟩
  have := h1 w.2.2
  omega
theorem lnV_ab {V : jM} {a b x y : Int} (x0 : 0 ≤ x) (x1 : x < 1440) (y0 : 0 ≤ y) (y1 : y < 1440) : jabs (jw (x - y)) = (if 0 ≤ x - y then x - y else y - x) := by
  rw [jw_id (by omega) (by omega)]
  unfold jabs
  split
  · rfl
  · rw [jw_id (by omega) (by omega)]; omega
theorem c_lookQ0 {m : jM} {Q : Int → jM → Prop} {day n : Int} (h : qI m) (hno : ¬ lkK m day n → Q 0 m) (hQ : ∀ m1, lkK m day n → vG 1 m day n m1 → m1 0 = m 0 → Q 1 m1) : ML iX10_look [(2, 0), (0, day), (0, n)] m Q := by
  refine c_look h.1 h.2.1 (vwR_inv h.2.2.1) (vwR_nn h.2.2.1) (by have := h.2.2.2; omega) hno (fun m1 hl hf hg hs ho => hQ m1 hl ⟨hg, hs, tn_agr hf, fun p p0 p1 => frx_row hf p ?_ ?_, ?_⟩ (frx_row hf 0 (by decide) (by decide)))
  · simp only [List.mem_cons, List.not_mem_nil, or_false]
    omega
  · intro q hq
    simp only [List.mem_cons, List.not_mem_nil, or_false] at hq
    rcases hq with rfl | rfl | rfl | rfl | rfl | rfl | rfl <;> simp only <;> omega
  · rcases ho with rfl | e
    · exact Or.inl ⟨rfl, rfl, rfl, rfl⟩
    · exact Or.inr ⟨by omega, by omega⟩
theorem c_isLentC {m m2 : jM} {Q : Int → jM → Prop} {n i j : Int} (h : qI m) (hI : plI m) (hF : flI m) (hl : lkK m (vw m 0 0 n 13 i) n) (n0 : 0 ≤ n) (n1 : n ≤ m 139 44) (i0 : 0 ≤ i) (i1 : i < n) (j0 : 0 ≤ j) (j1 : j < n) (ti : tpK m n i) (tj : tpK m n j) (g : vG 1 m (vw m 0 0 n 13 i) n m2) (hQ : ∀ r m3, (lnV (vv m (vw m 0 0 n 13 i) n) (vw m 0 0 n 12 i) (vw m 0 0 n 12 j) (vw m 0 0 n 14 i) (vw m 0 0 n 14 j) → r = 1) → (¬ lnV (vv m (vw m 0 0 n 13 i) n) (vw m 0 0 n 12 i) (vw m 0 0 n 12 j) (vw m 0 0 n 14 i) (vw m 0 0 n 14 j) → r = 0) → qOutF 1 m m3 → m3 0 = m2 0 → Q r m3) : ML iX10_isLent [(2, 0), (0, i), (0, j)] m2 Q := by
  have t := h.1.1.1
  have ri := (tp_row h g.2.2.1 n0 n1 i0 i1).1
  have rj := (tp_row h g.2.2.1 n0 n1 j0 j1).1
  have bi := tp_in h n0 n1 i0 i1 ti
  have bj := tp_in h n0 n1 j0 j1 tj
  obtain ⟨q, vk, vt, vd⟩ := lk_K h hl
  have gt := g.1.2.1.1.1
  have ct := g.1.2.1.2.1
  have fin : ∀ m3, vG 1 m (vw m 0 0 n 13 i) n m3 → qOutF 1 m m3 := fun m3 g3 => q_finF h hl (vP_Z hF (vG_P hI g3)) rfx_rf
  unfold lnV at hQ
  refine sX10_isLent ?_
  rw [ri.2.1, ri.2.2.2, rj.2.1, rj.2.2.2, gt, ct.2.1.2.2.2.1]
  refine ⟨i0, by omega, j0, by omega, fun z => hQ 1 m2 (fun _ => rfl) (fun w => absurd (Or.inl z) w) (fin m2 g) rfl, fun z => ⟨fun z2 => ⟨i0, by omega, j0, by omega, by omega, by omega, by omega, by omega, ?_⟩, fun z2 => hQ 1 m2 (fun _ => rfl) (fun w => absurd (Or.inr (Or.inl (by omega))) w) (fin m2 g) rfl⟩⟩
  rw [ct.2.2.2.2.2.1 _ bi.1 (by omega), ct.2.2.2.2.2.1 _ bj.1 (by omega)]
  refine c_sumOf vt g.1.2.1 (by decide) (by decide) (fun m3 f3 b3 => ?_)
  have g3 := vG_sums h hl g b3 f3
  have r3i := (tp_row h g3.2.2.1 n0 n1 i0 i1).1
  have r3j := (tp_row h g3.2.2.1 n0 n1 j0 j1).1
  rw [lnV_ab (V := m) (a := 0) (b := 0) bi.2.2.2.2.1 bi.2.2.2.2.2 bj.2.2.2.2.1 bj.2.2.2.2.2]
  have dg := vD_ge vt 2 (vv m (vw m 0 0 n 13 i) n 8 (vw m 0 0 n 12 i)) (vv m (vw m 0 0 n 13 i) n 8 (vw m 0 0 n 12 j))
  generalize hd : vD (vv m (vw m 0 0 n 13 i) n) 2 (vv m (vw m 0 0 n 13 i) n 8 (vw m 0 0 n 12 i)) (vv m (vw m 0 0 n 13 i) n 8 (vw m 0 0 n 12 j)) = d at *
  unfold enc
  refine ⟨fun z3 => hQ 0 m3 (fun w => ?_) (fun _ => rfl) (fin m3 g3) (frx_row f3 0 (by decide) (by decide)), fun z3 => hQ 1 m3 (fun _ => rfl) (fun w => absurd ?_ w) (fin m3 g3) (frx_row f3 0 (by decide) (by decide))⟩
  · split at z3 <;> split at z3 <;> omega
  · split at z3 <;> split at z3 <;> omega
theorem c_findLent {m : jM} {Q : Int → jM → Prop} {n w : Int} (h : qI m) (hs : m 11 5 + 10000 ≤ 20000000) (hI : plI m) (hF : flI m) (n0 : 0 ≤ n) (n1 : n ≤ m 139 44) (hQ : ∀ m', qOutF 10000 m m' → (0 ≤ w → w < (lnI m n w n.toNat).1 → m' 0 12 = (lnI m n w n.toNat).2.1 ∧ m' 0 13 = (lnI m n w n.toNat).2.2) → Q (lnI m n w n.toNat).1 m') : ML iX10_findLent [(2, 0), (0, n), (0, w)] m Q := by
  have t := h.1.1.1
  refine sX10_findLent ?_
  refine lup2 (n := n) (I := fun i m1 found => 0 ≤ i ∧ i ≤ n ∧ qOutF (100 * i) m m1 ∧ found = (lnI m n w i.toNat).1 ∧ (0 ≤ w → w < found → m1 0 12 = (lnI m n w i.toNat).2.1 ∧ m1 0 13 = (lnI m n w i.toNat).2.2)) (G := fun i m1 found => GL iX10_findLent m1 5 [(2, 0), (0, n), (0, w), (0, found), (0, i), (9, 0)] [] Q) ?_ ?_ 0 m 0 ⟨by decide, n0, qF_mo (qF_rf h hI hF) (by decide), rfl, fun w0 w1 => by omega⟩
  · rintro i m1 found hi ⟨i0, -, g1, hc, hp⟩ K
    have bd := lnI_bd (m := m) (n := n) (w := w) (by omega) i.toNat
    have e1 : lnI m n w (i + 1).toNat = lnJ m n w i (lnI m n w i.toNat) (n - (i + 1)).toNat := by
      rw [show (i + 1).toNat = i.toNat + 1 by omega]
      simp only [lnI]
      rw [Int.toNat_of_nonneg i0]
    refine sX10_findLent_5 ⟨fun z => absurd z (by omega), fun _ => ?_⟩
    rw [jw_id (x := i + 1) (by omega) (by omega)]
    refine lup2 (n := n) (I := fun j m2 fd => i + 1 ≤ j ∧ j ≤ n ∧ qOutF (100 * i + (j - (i + 1))) m m2 ∧ fd = (lnJ m n w i (lnI m n w i.toNat) (j - (i + 1)).toNat).1 ∧ (0 ≤ w → w < fd → m2 0 12 = (lnJ m n w i (lnI m n w i.toNat) (j - (i + 1)).toNat).2.1 ∧ m2 0 13 = (lnJ m n w i (lnI m n w i.toNat) (j - (i + 1)).toNat).2.2)) (G := fun j m2 fd => GL iX10_findLent m2 17 [(2, 0), (0, n), (0, w), (0, fd), (0, i), (0, j)] [] Q) ?_ ?_ (i + 1) m1 found ⟨Int.le_refl _, by omega, qF_mo g1 (by omega), by rw [Int.sub_self]; exact hc, by rw [Int.sub_self]; exact hp⟩
    · rintro j m2 fd hj ⟨j0, -, g2, hc2, hp2⟩ K2
      have q2 : qI m2 := qF_qI h g2 (by omega) (by omega)
      have f2 : m2 139 44 = m 139 44 := agr_at g2.2.1 139 44 (by decide)
      have bj := lnJ_bd (m := m) (n := n) (w := w) (i := i) (s := lnI m n w i.toNat) (j - (i + 1)).toNat
      have e2 : lnJ m n w i (lnI m n w i.toNat) (j + 1 - (i + 1)).toNat = lnS m n w i j (lnJ m n w i (lnI m n w i.toNat) (j - (i + 1)).toNat) := by
        rw [show (j + 1 - (i + 1)).toNat = (j - (i + 1)).toNat + 1 by omega]
        simp only [lnJ]
        rw [show i + 1 + (((j - (i + 1)).toNat : Nat) : Int) = j by omega]
      have ev : vw m2 0 0 n = vw m 0 0 n := vw_cg (agr_sub g2.2.1 (by decide) (by decide)) 0 0 n
      -- not lent: the next one
      have skip : ∀ m3, ¬ lnt m n i j → qOutF (100 * i + (j + 1 - (i + 1))) m m3 → m3 0 12 = m2 0 12 → m3 0 13 = m2 0 13 → GL iX10_findLent m3 17 [(2, 0), (0, n), (0, w), (0, fd), (0, i), (0, j + 1)] [] Q := by
        intro m3 hn g3 a12 a13
        have e3 : lnS m n w i j (lnJ m n w i (lnI m n w i.toNat) (j - (i + 1)).toNat) = lnJ m n w i (lnI m n w i.toNat) (j - (i + 1)).toNat := by
          unfold lnS
          rw [if_neg hn]
        refine K2 m3 fd ⟨by omega, by omega, g3, ?_, ?_⟩
        · rw [e2, e3]; exact hc2
        · rw [e2, e3, a12, a13]; exact hp2
      refine sX10_findLent_17 ⟨fun z => absurd z (by omega), fun _ => c_knownTap h g2.2.1 n0 n1 i0 hi (fun r h1 h0 => ⟨fun z => ?_, fun z => ?_⟩)⟩
      · have no : ¬ tpK m n i := fun w => by have := h1 w; omega
        have e4 := lnJ_no (m := m) (n := n) (w := w) (i := i) (s := lnI m n w i.toNat) no
        rw [e4] at hc2 hp2
        rw [jw_id (x := i + 1) (by omega) (by omega)]
        refine K m2 fd ⟨by omega, by omega, qF_mo g2 (by omega), ?_, ?_⟩
        · rw [e1, e4]; exact hc2
        · rw [e1, e4]; exact hp2
      · have ti : tpK m n i := Classical.byContradiction (fun w => z (h0 w))
        rw [jw_id (x := j + 1) (by omega) (by omega)]
        refine c_areAlike h g2.2.1 n0 n1 i0 hi (by omega) hj (fun r h1 h0 => ⟨fun z2 => skip m2 (fun y => ?_) (qF_mo g2 (by omega)) rfl rfl, fun z2 => ?_⟩)
        · have := h1 ⟨y.2.2.1, y.2.2.2.1, y.2.1⟩
          omega
        · have al : vw m 0 0 n 13 i = vw m 0 0 n 13 j ∧ vw m 0 0 n 11 i = vw m 0 0 n 11 j ∧ tpK m n j := Classical.byContradiction (fun w => z2 (h0 w))
          have tj := al.2.2
          have ri := (tp_row h g2.2.1 n0 n1 i0 hi).1
          rw [ri.2.2.1]
          refine ⟨i0, by omega, c_lookQ0 q2 (fun hn => ⟨fun _ => skip m2 (fun y => hn ((lkK_cg g2.2.1 _ n).mpr y.2.2.2.2.1)) (qF_mo g2 (by omega)) rfl rfl, fun w => absurd rfl w⟩) (fun m3 hl g3 k3 => ⟨fun w => absurd w (by decide), fun _ => ?_⟩)⟩
          have hl' : lkK m (vw m 0 0 n 13 i) n := (lkK_cg g2.2.1 _ n).mp hl
          have cc := c_isLentC (m := m2) (m2 := m3) (n := n) (i := i) (j := j) (Q := fun r29 m30 => ((r29 = 0 → GL iX10_findLent m30 17 [(2, 0), (0, n), (0, w), (0, fd), (0, i), (0, j + 1)] [] Q) ∧ (¬ (r29 = 0) → ((fd ≠ w → GL iX10_findLent m30 17 [(2, 0), (0, n), (0, w), (0, (jw (fd + 1))), (0, i), (0, j + 1)] [] Q) ∧ (¬ (fd ≠ w) → GL iX10_findLent (jup (jup m30 0 12 i) 0 13 j) 17 [(2, 0), (0, n), (0, w), (0, (jw (fd + 1))), (0, i), (0, j + 1)] [] Q))))) q2 g2.2.2.2.1 g2.2.2.2.2
          rw [ev, vv_cg g2.2.1] at cc
          refine cc hl n0 (by omega) i0 hi (by omega) hj ((tpK_cg g2.2.1 n i).mpr ti) ((tpK_cg g2.2.1 n j).mpr tj) g3 (fun r m4 hy hn g4 k4 => ?_)
          have g4' : qOutF (100 * i + (j + 1 - (i + 1))) m m4 := qF_mo (qF_tr g2 g4 (by omega) (by decide)) (by omega)
          have keep : m4 0 = m2 0 := k4.trans k3
          refine ⟨fun y0 => skip m4 (fun y => ?_) g4' (by rw [keep]) (by rw [keep]), fun y0 => ?_⟩
          · have := hy y.2.2.2.2.2
            omega
          · have yes : lnt m n i j := ⟨ti, tj, al.1, al.2.1, hl', Classical.byContradiction (fun w => y0 (hn w))⟩
            have e3 : lnS m n w i j (lnJ m n w i (lnI m n w i.toNat) (j - (i + 1)).toNat) = ((lnJ m n w i (lnI m n w i.toNat) (j - (i + 1)).toNat).1 + 1, if (lnJ m n w i (lnI m n w i.toNat) (j - (i + 1)).toNat).1 = w then (i, j) else (lnJ m n w i (lnI m n w i.toNat) (j - (i + 1)).toNat).2) := by
              unfold lnS
              rw [if_pos yes]
            rw [jw_id (x := fd + 1) (by omega) (by omega)]
            refine ⟨fun y1 => K2 m4 (fd + 1) ⟨by omega, by omega, g4', ?_, fun w0 w1 => ?_⟩, fun y1 => K2 _ (fd + 1) ⟨by omega, by omega, qF_0 g4' ?_ (fun p p0 _ => by rw [jup_ne p0, jup_ne p0]) (agr_of (S := []) (K := [(0, 12), (0, 13)]) (frx_upF (frx_upF frx_rf (by decide)) (by decide)) (by decide)), ?_, fun w0 w1 => ?_⟩⟩
            · rw [e2, e3, ← hc2]
            · rw [e2, e3, ← hc2, if_neg y1, keep]
              exact hp2 w0 (by omega)
            · rw [agr_at g4'.2.1 139 12 (by decide)]; exact h.2.1.1.2.1
            · rw [e2, e3, ← hc2]
            · rw [e2, e3, ← hc2, if_pos (Classical.byContradiction y1)]
              exact ⟨rfl, rfl⟩
    · rintro j m2 fd hj ⟨j0, j1, g2, hc2, hp2⟩
      obtain rfl : j = n := by omega
      refine sX10_findLent_17 ⟨fun _ => ?_, fun z => absurd (Int.le_refl _) z⟩
      rw [jw_id (x := i + 1) (by omega) (by omega)]
      refine K m2 fd ⟨by omega, by omega, qF_mo g2 (by omega), ?_, ?_⟩
      · rw [e1]; exact hc2
      · rw [e1]; exact hp2
  · rintro i m1 found hi ⟨i0, i1, g1, hc, hp⟩
    obtain rfl : i = n := by omega
    refine sX10_findLent_5 ⟨fun _ => ?_, fun z => absurd (Int.le_refl _) z⟩
    subst hc
    exact hQ m1 (qF_mo g1 (by omega)) hp

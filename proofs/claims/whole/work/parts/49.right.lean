/-! rights and stops of children -/
def frN (V : jM) (x : Int → Int) : Nat → Int
  | 0 => -1
  | n + 1 => if heldB V x (V 20 (V 0 4 - ((n + 1 : Nat) : Int))) (V 21 (V 0 4 - ((n + 1 : Nat) : Int))) = true then V 0 4 - ((n + 1 : Nat) : Int) else frN V x n
/-- the first right that holds -/
def frS (V : jM) (x : Int → Int) : Int := frN V x (V 0 4).toNat
theorem frN_in (V : jM) (x : Int → Int) : ∀ n : Nat, (n : Int) ≤ V 0 4 → frN V x n = -1 ∨ (0 ≤ frN V x n ∧ frN V x n < V 0 4) := by
  intro n
  induction n with
  | zero => intro _; exact Or.inl rfl
  | succ n ih =>
    intro h
    simp only [frN]
    split
    · omega
    · exact ih (by omega)
theorem frS_in {V : jM} (h : vKt V) (x : Int → Int) : frS V x = -1 ∨ (0 ≤ frS V x ∧ frS V x < V 0 4) := frN_in V x _ (by have := h.1; omega)
def cdSt (t : Int) (m : jM) (r : Int) : Int := if r = 0 then 0 else m (t + 8) (r - 1)
/-- the class's code of the text at t says what the view's conds say -/
def cdR (V : jM) (t : Int) (m : jM) : Prop := ∀ r, 0 ≤ r → r < V 0 4 → cOk (m (t + 9)) (cdSt t m r) (m (t + 8) r) ∧ ∀ x, (cTop (cEv (m (t + 9)) x (cdSt t m r) (m (t + 8) r - cdSt t m r).toNat) ≠ 0 ↔ heldB V x (V 20 r) (V 21 r) = true)
theorem cdR_fr {V m m' : jM} {t : Int} (h : cdR V t m) (h1 : m' (t + 8) = m (t + 8)) (h2 : m' (t + 9) = m (t + 9)) : cdR V t m' := by
  unfold cdR cdSt at *
  rw [h1, h2]
  exact h
theorem c_firstRight {V m : jM} {Q : Int → jM → Prop} {t : Int} {x : Int → Int} (hk : vKt V) (hc : vCt V t m) (hd : cdR V t m) (hx : ∀ i, 0 ≤ i → i < 5 → m 26 i = x i) (hQ : ∀ m', fr [(t + 11)] m m' → Q (frS V x) m') : ML iX8_firstRight [(2, t), (2, 26)] m Q := by
  have ht := hc.1
  have tr := jTx_rng ht
  have hN := hk.1
  have ok : ∀ m1, fr [(t + 11)] m m1 → m1 t = m t ∧ m1 (t + 8) = m (t + 8) ∧ m1 (t + 9) = m (t + 9) ∧ m1 26 = m 26 := fun m1 hf => ⟨hf _ (by simp only [List.mem_cons, List.not_mem_nil, or_false]; omega), hf _ (by simp only [List.mem_cons, List.not_mem_nil, or_false]; omega), hf _ (by simp only [List.mem_cons, List.not_mem_nil, or_false]; omega), hf _ (by simp only [List.mem_cons, List.not_mem_nil, or_false]; omega)⟩
  refine sX8_firstRight ht ?_
  refine lup2 (n := V 0 4) (I := fun r m1 (st : Int) => 0 ≤ r ∧ r ≤ V 0 4 ∧ fr [(t + 11)] m m1 ∧ st = cdSt t m r ∧ frS V x = frN V x (V 0 4 - r).toNat) (G := fun r m1 st => GL iX8_firstRight m1 4 [(2, t), (2, 26), (0, st), (0, r)] [] Q) ?_ ?_ 0 m 0 ⟨by decide, by omega, fr_rf, by unfold cdSt; rw [if_pos rfl], by rw [Int.sub_zero]; rfl⟩
  · rintro r m1 st hr ⟨r0, r1, hf, rfl, e⟩ K
    obtain ⟨o1, o2, o3, o4⟩ := ok m1 hf
    have q := hd r r0 hr
    have nx : frN V x (V 0 4 - r).toNat = if heldB V x (V 20 r) (V 21 r) = true then r else frN V x (V 0 4 - (r + 1)).toNat := by
      rw [show (V 0 4 - r).toNat = (V 0 4 - (r + 1)).toNat + 1 by omega]
      simp only [frN]
      rw [show V 0 4 - (((V 0 4 - (r + 1)).toNat + 1 : Nat) : Int) = r by omega]
    refine sX8_firstRight_4 ht ?_
    rw [o1, o2, hc.2.1.2.2.2.2, jw_id (x := r + 1) (by omega) (by omega)]
    refine ⟨fun z => absurd z (by omega), fun _ => ⟨r0, by omega, c_holds (x := x) ht (by rw [o3]; exact q.1) (fun i i0 i1 => by rw [o4]; exact hx i i0 i1) (fun m2 hf2 => ⟨fun z => ⟨r0, by omega, ?_⟩, fun z => ?_⟩)⟩⟩
    · obtain ⟨p1, p2, p3, p4⟩ := ok m2 (fr_tr hf hf2)
      rw [o3] at z
      have hn : ¬ (heldB V x (V 20 r) (V 21 r) = true) := by
        intro y
        rw [if_pos ((q.2 x).mpr y)] at z
        exact absurd z (by decide)
      rw [p2]
      refine K m2 _ ⟨by omega, by omega, fr_tr hf hf2, ?_, by rw [e, nx, if_neg hn]⟩
      unfold cdSt
      rw [if_neg (by omega), show r + 1 - 1 = r by omega]
    · rw [o3] at z
      have hn : heldB V x (V 20 r) (V 21 r) = true := by
        apply (q.2 x).mp
        intro y
        rw [if_neg (fun w => w y)] at z
        exact z rfl
      have hq := hQ m2 (fr_tr hf hf2)
      rw [e, nx, if_pos hn] at hq
      exact hq
  · rintro r m1 st hr ⟨r0, r1, hf, rfl, e⟩
    obtain rfl : r = V 0 4 := by omega
    obtain ⟨o1, o2, o3, o4⟩ := ok m1 hf
    refine sX8_firstRight_4 ht ?_
    rw [o1, hc.2.1.2.2.2.2]
    refine ⟨fun _ => ?_, fun z => absurd (Int.le_refl _) z⟩
    have hq := hQ m1 hf
    rw [e, Int.sub_self] at hq
    exact hq
/-- the place of a child's school, -1 without -/
def vSP (V : jM) (c : Int) : Int := if V 12 (V 15 c) < V 0 2 then V 6 (V 12 (V 15 c)) else -1
noncomputable def vFar (V : jM) (what c : Int) : Int := if vD V what (vHome V c) (vSP V c) = -1 then 9999 else vD V what (vHome V c) (vSP V c)
noncomputable def vX (V : jM) (c : Int) : Int → Int := fun i => if i = 0 then V 13 (V 15 c) else if i = 1 then V 14 (V 15 c) else if i = 2 then vFar V 0 c else if i = 3 then vFar V 1 c else V 0 5
/-- the first right of a child, -1 without -/
noncomputable def vRgt (V : jM) (c : Int) : Int := frS V (vX V c)
/-- among the first j stops: the nearest, and how far -/
noncomputable def nsL (V : jM) (h : Int) : Nat → Int × Int
  | 0 => (-1, V 9 2 + 1)
  | j + 1 => if vD V 1 h (V 8 j) ≠ -1 ∧ vD V 1 h (V 8 j) < (nsL V h j).2 then ((j : Int), vD V 1 h (V 8 j)) else nsL V h j
noncomputable def vNear (V : jM) (h : Int) : Int := (nsL V h (V 0 3).toNat).1
/-- the stop of a rider, -1 without -/
noncomputable def vStp (V : jM) (c : Int) : Int := if vRgt V c = -1 ∨ vSP V c = -1 then -1 else vNear V (vHome V c)
theorem nsL_in (V : jM) (h : Int) : ∀ j : Nat, ((nsL V h j).1 = -1 ∧ (nsL V h j).2 = V 9 2 + 1) ∨ (0 ≤ (nsL V h j).1 ∧ (nsL V h j).1 < j ∧ (nsL V h j).2 ≤ V 9 2) := by
  intro j
  induction j with
  | zero => exact Or.inl ⟨rfl, rfl⟩
  | succ j ih =>
    simp only [nsL]
    split
    · rename_i z
      simp only
      omega
    · omega
theorem vNear_in {V : jM} (hk : vKt V) (h : Int) : vNear V h = -1 ∨ (0 ≤ vNear V h ∧ vNear V h < V 0 3) := by
  have := nsL_in V h (V 0 3).toNat
  have := hk.1
  unfold vNear
  omega
theorem vStp_in {V : jM} (hk : vKt V) (c : Int) : vStp V c = -1 ∨ (0 ≤ vStp V c ∧ vStp V c < V 0 3) := by
  have := vNear_in hk (vHome V c)
  unfold vStp
  split
  · exact Or.inl rfl
  · exact this
theorem vSP_in {V : jM} (hk : vKt V) (hf : vKf V) {c : Int} (c0 : 0 ≤ c) (c1 : c < V 0 7) : (vSP V c = -1 ∧ V 0 2 ≤ V 12 (V 15 c)) ∨ (0 ≤ vSP V c ∧ vSP V c < V 0 0 ∧ V 12 (V 15 c) < V 0 2 ∧ 0 ≤ V 12 (V 15 c)) := by
  have f := hf.2.2 c c0 c1
  have q := (hf.2.1 _ f.1 f.2.1).1
  unfold fcVal at q
  unfold vSP
  split
  · rename_i z
    have := hk.2.2.1 (V 12 (V 15 c)) (by omega) z
    omega
  · omega
/-- what is judged is right -/
def vwJ (V m : jM) : Prop := 0 ≤ m 11 13 ∧ m 11 13 < 1048576 ∧ ∀ c, 0 ≤ c → c < V 0 7 → tb (m 11 13) c = true → m 21 c = vRgt V c ∧ m 22 c = vStp V c
/-- the class's view is turned to V, by the k-th text -/
def vwG (V : jM) (k : Int) (m : jM) : Prop := m 11 9 = k ∧ vwB V (27 + 12 * k) m ∧ cdR V (27 + 12 * k) m ∧ vwJ V m
/-- all that a view's judging writes -/
abbrev jgFr (t : Int) : List Int := [21, 22, 24, 25, 26, (t + 11)]
theorem vwB_fr2 {V m m' : jM} {t : Int} (h : vwB V t m) (hf : frx (jgFr t) [(11, 13)] m m') (hs : vwS V m') : vwB V t m' := by
  have ht := jTx_rng h.2.1.1
  have row : ∀ p, p ≠ 11 → p ≠ 21 → p ≠ 22 → p ≠ 24 → p ≠ 25 → p ≠ 26 → p ≠ t + 11 → m' p = m p := fun p h0 h1 h2 h3 h4 h5 h6 => frx_row hf p (by simp [h1, h2, h3, h4, h5, h6]) (by intro q hq; simp only [List.mem_cons, List.not_mem_nil, or_false] at hq; rw [hq]; exact fun z => h0 z.symm)
  have f11 : ∀ i, i ≠ 13 → m' 11 i = m 11 i := fun i hi => hf 11 i (by simp only [List.mem_cons, List.not_mem_nil, or_false]; omega) (by simp [hi])
  refine ⟨?_, ?_, vCf_fr h.2.2.1 (fun p hp => ?_), ?_, hs⟩
  · rw [f11 2 (by decide), f11 3 (by decide), f11 4 (by decide), f11 6 (by decide)]
    exact h.1
  · have e : ∀ j, 0 ≤ j → j < 11 → m' (t + j) = m (t + j) := fun j j0 j1 => row _ (by omega) (by omega) (by omega) (by omega) (by omega) (by omega) (by omega)
    have e0 := e 0 (by decide) (by decide)
    rw [Int.add_zero] at e0
    have := h.2.1
    unfold vCt at *
    rw [e0, e 1 (by decide) (by decide), e 2 (by decide) (by decide), e 3 (by decide) (by decide), e 4 (by decide) (by decide), e 5 (by decide) (by decide), e 6 (by decide) (by decide), e 7 (by decide) (by decide), e 10 (by decide) (by decide)]
    exact this
  · simp only [List.mem_cons, List.not_mem_nil, or_false] at hp
    exact row p (by omega) (by omega) (by omega) (by omega) (by omega) (by omega) (by omega)
  · have := h.2.2.2.1
    unfold vwU at this ⊢
    rw [row 23 (by decide) (by decide) (by decide) (by decide) (by decide) (by decide) (by omega)]
    exact this
theorem c_nearest {V m : jM} {Q : Int → jM → Prop} {t h : Int} (hk : vKt V) (hb : vwB V t m) (hQ : ∀ m', frx [24, 25] [] m m' → vwB V t m' → Q (vNear V h) m') : ML iX9_nearestStop [(2, 11), (0, h)] m Q := by
  have hN := hk.1
  have w9 := hk.2.2.2.2 2 (by decide) (by decide)
  refine sX9_nearestStop ?_
  rw [hb.1.1, hb.2.1.2.2.2.2.2.2 2 (by decide) (by decide), jw_id (by omega) (by omega)]
  refine lup3 (n := V 0 3) (I := fun s m1 b l => 0 ≤ s ∧ s ≤ V 0 3 ∧ frx [24, 25] [] m m1 ∧ vwB V t m1 ∧ (b, l) = nsL V h s.toNat) (G := fun s m1 b l => GL iX9_nearestStop m1 17 [(2, 11), (0, h), (0, b), (0, l), (0, s), (9, 0)] [] Q) ?_ ?_ 0 m (-1) (V 9 2 + 1) ⟨by decide, by omega, frx_rf, hb, rfl⟩
  · rintro s m1 b l hs ⟨s0, s1, hf, hb1, hbl⟩ K
    have hin := nsL_in V h s.toNat
    rw [← hbl] at hin
    simp only at hin
    have nx : nsL V h (s + 1).toNat = if vD V 1 h (V 8 s) ≠ -1 ∧ vD V 1 h (V 8 s) < l then (s, vD V 1 h (V 8 s)) else (b, l) := by
      rw [show (s + 1).toNat = s.toNat + 1 by omega]
      simp only [nsL]
      rw [← hbl, Int.toNat_of_nonneg s0]
    refine sX9_nearestStop_17 ?_
    rw [hb1.1.1, hb1.2.1.2.1.2.2.2.1, hb1.2.1.2.2.2.2.2.1 s s0 hs, jw_id (x := s + 1) (by omega) (by omega)]
    refine ⟨fun z => absurd z (by omega), fun _ => ⟨s0, by omega, c_sumOf hk hb1 (by decide) (by decide) (fun m2 hf2 hb2 => ?_)⟩⟩
    rw [vD_sym hk 1 (V 8 s) h]
    have bd := vD_ge hk 1 h (V 8 s)
    refine ⟨fun z => K m2 _ _ ⟨by omega, by omega, frx_tr hf hf2, hb2, ?_⟩, fun z => K m2 _ _ ⟨by omega, by omega, frx_tr hf hf2, hb2, ?_⟩⟩
    · rw [nx, if_neg]
      rintro ⟨y1, y2⟩
      unfold enc at z
      rw [if_neg y1] at z
      omega
    · have y1 : vD V 1 h (V 8 s) ≠ -1 := by
        intro y
        unfold enc at z
        rw [if_pos y] at z
        omega
      unfold enc at z ⊢
      rw [if_neg y1] at z ⊢
      rw [nx, if_pos ⟨y1, by omega⟩]
  · rintro s m1 b l hs ⟨s0, s1, hf, hb1, hbl⟩
    obtain rfl : s = V 0 3 := by omega
    refine sX9_nearestStop_17 ?_
    rw [hb1.1.1, hb1.2.1.2.1.2.2.2.1]
    refine ⟨fun _ => ?_, fun z => absurd (Int.le_refl _) z⟩
    have hq := hQ m1 hf hb1
    unfold vNear at hq
    rw [← hbl] at hq
    exact hq
theorem c_judge {V m : jM} {Q : Int → jM → Prop} {k c : Int} (hf : vKf V) (hk : vKt V) (hg : vwG V k m) (c0 : 0 ≤ c) (c1 : c < V 0 7) (hQ : ∀ m', frx (jgFr (27 + 12 * k)) [(11, 13)] m m' → vwG V k m' → tb (m' 11 13) c = true → (∀ c', 0 ≤ c' → c' < 20 → tb (m 11 13) c' = true → tb (m' 11 13) c' = true) → Q 0 m') : ML iX9_judge [(2, 11), (0, c)] m Q := by
  obtain ⟨g9, gb, gd, gj⟩ := id hg
  have gj0 : 0 ≤ m 11 13 := gj.1
  have gj1 : m 11 13 < 1048576 := gj.2.1
  have tk := hf.1
  have tr := jTx_rng gb.2.1.1
  have hN := hk.1
  have gf := gb.2.2.1
  have fc := hf.2.2 c c0 c1
  have ec := gf.2.2 c c0 c1
  have ef := gf.2.1 _ fc.1 fc.2.1
  have hm := vHome_in hf c0 c1
  have sp := vSP_in hk hf c0 c1
  have hfv := (hf.2.1 _ fc.1 fc.2.1).1
  generalize htt : 27 + 12 * k = t at *
  refine sX9_judge ?_
  rw [jshr_bit (by omega) c0 (by omega)]
  refine ⟨fun z => ⟨c0, by omega, ?_⟩, fun z => hQ m frx_rf hg (by apply Classical.byContradiction; intro y; rw [if_neg y] at z; exact z rfl) (fun _ _ _ h => h)⟩
  have hnj : ¬ tb (m 11 13) c = true := by
    intro y
    rw [if_pos y] at z
    exact absurd z (by decide)
  rw [gb.1.2.1, gb.1.2.2.1, ec]
  have hs1 := jshl1_in c0 (show c < 31 by omega)
  have hs2 : jshl 1 c < 1048576 := by
    rw [jshl1 c c0 (by omega)]
    have : (2 : Int) ^ c.toNat ≤ 2 ^ 19 := p2le (by omega)
    omega
  generalize hj1 : jor (m 11 13) (jshl 1 c) = jj
  have jj0 : 0 ≤ jj ∧ jj < 1048576 := by
    rw [← hj1]
    exact ⟨jor_nn (by omega) (by omega), jor_lt (k := 20) ⟨by omega, by show m 11 13 < 1048576; omega⟩ ⟨by omega, by show jshl 1 c < 1048576; omega⟩ (by decide)⟩
  have jjb : ∀ c', 0 ≤ c' → c' < 20 → tb jj c' = (tb (m 11 13) c' || decide (c' = c)) := by
    intro c' h0 h1
    rw [← hj1, tb_or (by omega) (by omega) h0 (by omega), tb_shl1 c0 (by omega) h0]
  have fr1 : frx (jgFr t) [(11, 13)] m (jup m 11 13 jj) := frx_upF frx_rf (by simp)
  have sb : ∀ m', m' 24 = m 24 → m' 25 = m 25 → vwS V m' := by
    intro m' h1 h2
    have := gb.2.2.2.2
    unfold vwS at this ⊢
    rw [h1, h2]
    exact this
  have b1 : vwB V t (jup m 11 13 jj) := vwB_fr2 gb fr1 (sb _ rfl rfl)
  refine c_homeC hf b1.2.2.1 c0 c1 ?_
  rw [show jup m 11 13 jj 15 (V 15 c) = V 12 (V 15 c) from ef.2.2.1, b1.1.1, b1.2.1.2.1.2.2.1]
  refine ⟨fc.1, by omega, ?_⟩
  have go : ∀ s0, s0 = vSP V c → GL iX9_judge (jup m 11 13 jj) 88 [(2, 11), (0, c), (0, V 15 c), (0, vHome V c), (9, 0), (9, 0)] [(0, s0)] Q := by
    rintro s0 rfl
    refine sX9_judge_88 ⟨fc.1, by omega, fc.1, by omega, ?_⟩
    rw [show jup m 11 13 jj 16 (V 15 c) = V 13 (V 15 c) from ef.2.2.2.1, show jup m 11 13 jj 17 (V 15 c) = V 14 (V 15 c) from ef.2.2.2.2.1]
    generalize hm2 : jup (jup (jup m 11 13 jj) 26 0 (V 13 (V 15 c))) 26 1 (V 14 (V 15 c)) = m2
    have f2 : frx (jgFr t) [(11, 13)] m m2 := by rw [← hm2]; exact frx_upA (frx_upA fr1 (by simp)) (by simp)
    have b2 : vwB V t m2 := vwB_fr2 gb f2 (sb _ (by rw [← hm2]; rfl) (by rw [← hm2]; rfl))
    have j2 : m2 11 13 = jj := by rw [← hm2]; rfl
    have v20 : m2 26 0 = V 13 (V 15 c) := by rw [← hm2]; rfl
    have v21 : m2 26 1 = V 14 (V 15 c) := by rw [← hm2]; rfl
    have orn : ∀ {Q' : Int → jM → Prop} {m' : jM} (what : Int), Q' (vFar V what c) m' → ML iX9_orNotReached [(0, enc (vD V what (vSP V c) (vHome V c)))] m' Q' := by
      intro Q' m' what hq
      have bd := vD_ge hk what (vHome V c) (vSP V c)
      have bd2 := (vD_le hk what (vHome V c) (vSP V c)).1
      rw [vD_sym hk what (vSP V c) (vHome V c)]
      unfold vFar at hq
      unfold enc
      by_cases e : vD V what (vHome V c) (vSP V c) = -1
      · rw [if_pos e] at hq ⊢
        exact sX9_orNotReached ⟨fun y => absurd y (by decide), fun _ => hq⟩
      · rw [if_neg e] at hq ⊢
        exact sX9_orNotReached ⟨fun _ => hq, fun y => absurd (by omega) y⟩
    refine c_sumOf hk b2 (by decide) (by decide) (fun m3 f3 b3 => orn 0 ?_)
    have f3' : frx (jgFr t) [(11, 13)] m m3 := frx_tr f2 (frx_mono f3 (by simp) (by simp))
    generalize hm4 : jup m3 26 2 (vFar V 0 c) = m4
    have f4 : frx (jgFr t) [(11, 13)] m m4 := by rw [← hm4]; exact frx_upA f3' (by simp)
    have s3 := b3.2.2.2.2
    have b4 : vwB V t m4 := vwB_fr2 gb f4 (by rw [← hm4]; unfold vwS at s3 ⊢; exact s3)
    refine c_sumOf hk b4 (by decide) (by decide) (fun m5 f5 b5 => orn 1 ?_)
    have f5' : frx (jgFr t) [(11, 13)] m m5 := frx_tr f4 (frx_mono f5 (by simp) (by simp))
    rw [b5.1.1, b5.1.2.1]
    generalize hm6 : jup (jup m5 26 3 (vFar V 1 c)) 26 4 (V 0 5) = m6
    have f6 : frx (jgFr t) [(11, 13)] m m6 := by rw [← hm6]; exact frx_upA (frx_upA f5' (by simp)) (by simp)
    have s5 := b5.2.2.2.2
    have b6 : vwB V t m6 := vwB_fr2 gb f6 (by rw [← hm6]; unfold vwS at s5 ⊢; exact s5)
    have v50 : m5 26 0 = V 13 (V 15 c) := by
      rw [frx_row f5 26 (by decide) (by intro q hq; cases hq), ← hm4, jup_self, if_neg (by decide), frx_row f3 26 (by decide) (by intro q hq; cases hq)]
      exact v20
    have v51 : m5 26 1 = V 14 (V 15 c) := by
      rw [frx_row f5 26 (by decide) (by intro q hq; cases hq), ← hm4, jup_self, if_neg (by decide), frx_row f3 26 (by decide) (by intro q hq; cases hq)]
      exact v21
    have v52 : m5 26 2 = vFar V 0 c := by
      rw [frx_row f5 26 (by decide) (by intro q hq; cases hq), ← hm4, jup_self, if_pos rfl]
    have hx6 : ∀ i, 0 ≤ i → i < 5 → m6 26 i = vX V c i := by
      intro i i0 i1
      have : i = 0 ∨ i = 1 ∨ i = 2 ∨ i = 3 ∨ i = 4 := by omega
      rcases this with rfl | rfl | rfl | rfl | rfl
      · rw [← hm6]; exact v50
      · rw [← hm6]; exact v51
      · rw [← hm6]; exact v52
      · rw [← hm6]; rfl
      · rw [← hm6]; rfl
    have row6 : ∀ p, p ≠ 11 → p ≠ 21 → p ≠ 22 → p ≠ 24 → p ≠ 25 → p ≠ 26 → p ≠ t + 11 → m6 p = m p := fun p h0 h1 h2 h3 h4 h5 h6 => frx_row f6 p (by simp [h1, h2, h3, h4, h5, h6]) (by intro q hq; simp only [List.mem_cons, List.not_mem_nil, or_false] at hq; rw [hq]; exact fun z => h0 z.symm)
    have d6 : cdR V t m6 := cdR_fr gd (row6 _ (by omega) (by omega) (by omega) (by omega) (by omega) (by omega) (by omega)) (row6 _ (by omega) (by omega) (by omega) (by omega) (by omega) (by omega) (by omega))
    refine c_firstRight hk b6.2.1 d6 hx6 (fun m7 f7 => ?_)
    have f7' : frx (jgFr t) [(11, 13)] m m7 := frx_tr f6 (frx_mono (frx_fr (K := []) f7) (by simp) (by simp))
    have r7 : ∀ p, p ≠ t + 11 → m7 p = m6 p := fun p hp => f7 p (by simp [hp])
    have s7 : vwS V m7 := by
      have := b6.2.2.2.2
      unfold vwS at this ⊢
      rw [r7 24 (by omega), r7 25 (by omega)]
      exact this
    have j7 : m7 11 13 = jj := by
      rw [r7 11 (by omega), ← hm6]
      show m5 11 13 = jj
      rw [frx_row f5 11 (by decide) (by intro q hq; cases hq), ← hm4]
      show m3 11 13 = jj
      rw [frx_row f3 11 (by decide) (by intro q hq; cases hq)]
      exact j2
    have o21 : ∀ i, m7 21 i = m 21 i := by
      intro i
      rw [r7 21 (by omega), ← hm6]
      show m5 21 i = m 21 i
      rw [frx_row f5 21 (by decide) (by intro q hq; cases hq), ← hm4]
      show m3 21 i = m 21 i
      rw [frx_row f3 21 (by decide) (by intro q hq; cases hq), ← hm2]
      rfl
    have o22 : ∀ i, m7 22 i = m 22 i := by
      intro i
      rw [r7 22 (by omega), ← hm6]
      show m5 22 i = m 22 i
      rw [frx_row f5 22 (by decide) (by intro q hq; cases hq), ← hm4]
      show m3 22 i = m 22 i
      rw [frx_row f3 22 (by decide) (by intro q hq; cases hq), ← hm2]
      rfl
    -- the end: both rows written
    have fin : ∀ m8, frx (jgFr t) [(11, 13)] m m8 → vwS V m8 → m8 11 13 = jj → (∀ i, m8 21 i = if i = c then vRgt V c else m 21 i) → (∀ i, m8 22 i = if i = c then vStp V c else m 22 i) → Q 0 m8 := by
      intro m8 f8 s8 j8 h21 h22
      have row8 : ∀ p, p ≠ 11 → p ≠ 21 → p ≠ 22 → p ≠ 24 → p ≠ 25 → p ≠ 26 → p ≠ t + 11 → m8 p = m p := fun p h0 h1 h2 h3 h4 h5 h6 => frx_row f8 p (by simp [h1, h2, h3, h4, h5, h6]) (by intro q hq; simp only [List.mem_cons, List.not_mem_nil, or_false] at hq; rw [hq]; exact fun z => h0 z.symm)
      refine hQ m8 f8 ⟨?_, ?_, ?_, ?_⟩ (by rw [j8, jjb c c0 (by omega)]; simp) (fun c' h0 h1 h2 => by rw [j8, jjb c' h0 h1, h2]; rfl)
      · rw [f8 11 9 (by simp only [List.mem_cons, List.not_mem_nil, or_false]; omega) (by decide)]
        exact g9
      · rw [htt]
        exact vwB_fr2 gb f8 s8
      · rw [htt]
        exact cdR_fr gd (row8 _ (by omega) (by omega) (by omega) (by omega) (by omega) (by omega) (by omega)) (row8 _ (by omega) (by omega) (by omega) (by omega) (by omega) (by omega) (by omega))
      · refine ⟨by omega, by omega, fun c' h0 h1 h2 => ?_⟩
        rw [h21, h22]
        by_cases e : c' = c
        · rw [if_pos e, if_pos e, e]
          exact ⟨rfl, rfl⟩
        · rw [if_neg e, if_neg e]
          rw [j8, jjb c' h0 (by omega), decide_eq_false e, Bool.or_false] at h2
          exact gj.2.2 c' h0 h1 h2
    have hR : frS V (vX V c) = vRgt V c := rfl
    rw [hR]
    refine ⟨c0, by omega, c0, by omega, fun e => ⟨c0, by omega, ?_⟩, fun e => ⟨fun e2 => ?_, fun e2 => ⟨c0, by omega, ?_⟩⟩⟩
    · refine fin _ (frx_upA (frx_upA f7' (by simp)) (by simp)) (by unfold vwS at s7 ⊢; exact s7) j7 (fun i => ?_) (fun i => ?_)
      · rw [jup_ne (by decide), jup_self, o21]
      · rw [jup_self, jup_ne (by decide), o22]
        have : vStp V c = -1 := by unfold vStp; rw [if_pos (Or.inl e)]
        rw [this]
    · generalize hm8 : jup m7 21 c (vRgt V c) = m8
      have f8 : frx (jgFr t) [(11, 13)] m m8 := by rw [← hm8]; exact frx_upA f7' (by simp)
      have b8 : vwB V t m8 := vwB_fr2 gb f8 (by rw [← hm8]; unfold vwS at s7 ⊢; exact s7)
      refine c_nearest hk b8 (fun m9 f9 b9 => ⟨c0, by omega, ?_⟩)
      refine fin _ (frx_upA (frx_tr f8 (frx_mono f9 (by simp) (by simp))) (by simp)) (by have := b9.2.2.2.2; unfold vwS at this ⊢; exact this) ?_ (fun i => ?_) (fun i => ?_)
      · show m9 11 13 = jj
        rw [frx_row f9 11 (by decide) (by intro q hq; cases hq), ← hm8]
        exact j7
      · rw [jup_ne (by decide), frx_row f9 21 (by decide) (by intro q hq; cases hq), ← hm8, jup_self, o21]
      · rw [jup_self, frx_row f9 22 (by decide) (by intro q hq; cases hq), ← hm8, jup_ne (by decide), o22]
        have : vStp V c = vNear V (vHome V c) := by unfold vStp; rw [if_neg (by rintro (y | y); exact e y; exact e2 y)]
        rw [this]
    · refine fin _ (frx_upA (frx_upA f7' (by simp)) (by simp)) (by unfold vwS at s7 ⊢; exact s7) j7 (fun i => ?_) (fun i => ?_)
      · rw [jup_ne (by decide), jup_self, o21]
      · rw [jup_self, jup_ne (by decide), o22]
        have : vStp V c = -1 := by unfold vStp; rw [if_pos (Or.inr (Classical.byContradiction e2))]
        rw [this]
  refine ⟨fun z2 => go (-1) ?_, fun z2 => ?_⟩
  · unfold vSP
    rw [if_neg (by omega)]
  · have h12 : 0 ≤ V 12 (V 15 c) := by unfold fcVal at hfv; omega
    rw [(b1.2.1.2.2.2.2.1 _ h12 (by omega)).1]
    refine ⟨h12, by omega, go _ ?_⟩
    unfold vSP
    rw [if_pos (by omega)]

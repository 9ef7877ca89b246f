/-! lent in the reference -/
theorem r_live {m m1 : jM} {Q : Int → jM → Prop} {n i : Int} (h : qI m) (ha : agr kpD kpF m m1) (n0 : 0 ≤ n) (n1 : n ≤ m 139 44) (i0 : 0 ≤ i) (i1 : i < n) (hQ : ∀ r, (vLv (vw m 0 0 n) i → r = 1) → (¬ vLv (vw m 0 0 n) i → r = 0) → Q r m1) : ML iX11_isLive [(2, 139), (0, i), (0, n)] m1 Q := by
  have f := vw_f h.1 (k := 0) (day := 0) (by decide) (by decide) n0 n1
  exact c_isLive (V := vw m 0 0 n) f.1 (vRf_fr f.2.1 (agr_at ha 139 44 (by decide)) (agr_at ha 139 50 (by decide)) (fun p hp => agr_row ha p (by simp only [List.mem_cons, List.not_mem_nil, or_false] at hp ⊢; omega))) i0 i1 hQ
theorem plain_ab {m : jM} {Q : Int → jM → Prop} {x y : Int} (x0 : 0 ≤ x) (x1 : x < 1440) (y0 : 0 ≤ y) (y1 : y < 1440) (hQ : Q (if 0 ≤ x - y then x - y else y - x) m) : ML iX11_plain [(0, jw (x - y))] m Q := by
  rw [jw_id (by omega) (by omega)]
  refine sX11_plain ⟨fun z => ?_, fun z => ?_⟩
  · rw [if_pos z] at hQ; exact hQ
  · rw [if_neg z] at hQ
    rw [jw_id (by omega) (by omega), show -(x - y) = y - x by omega]
    exact hQ
theorem r_isLent {m m1 : jM} {Q : Int → jM → Prop} {n i j : Int} (h : qI m) (ha : agr kpD kpF m m1) (n0 : 0 ≤ n) (n1 : n ≤ m 139 44) (i0 : 0 ≤ i) (i1 : i < n) (j0 : 0 ≤ j) (j1 : j < n) (ti : tpK m n i) (tj : tpK m n j) (hQ : ∀ r m3, (lnt m n i j → r = 1) → (¬ lnt m n i j → r = 0) → frx [190, 191] [(139, 69)] m1 m3 → Q r m3) : ML iX11_isLent [(2, 139), (0, i), (0, j), (0, n)] m1 Q := by
  have t := h.1.1.1
  have ri := (tp_row h ha n0 n1 i0 i1).2
  have rj := (tp_row h ha n0 n1 j0 j1).2
  have bi := tp_in h n0 n1 i0 i1 ti
  have bj := tp_in h n0 n1 j0 j1 tj
  have xt := h.2.1.1
  have e12 := agr_at ha 139 12 (by decide)
  refine sX11_isLent ?_
  rw [ri.2.1, ri.2.2.2.1, rj.2.1, rj.2.2.2.1]
  refine ⟨i0, by omega, j0, by omega, fun z => hQ 0 m1 (fun w => absurd w.2.2.1.symm z) (fun _ => rfl) frx_rf, fun z => ⟨i0, by omega, j0, by omega, fun z2 => hQ 0 m1 (fun w => absurd w.2.2.2.1 z2) (fun _ => rfl) frx_rf, fun z2 => c_force (by omega) (by omega) ⟨fun z3 => ?_, fun z3 => hQ 0 m1 (fun w => absurd w.2.2.2.2.1.1 (by rw [frc_cg ha] at z3; exact z3)) (fun _ => rfl) frx_rf⟩⟩⟩
  rw [frc_cg ha] at z3
  have hl : lkK m (vw m 0 0 n 13 i) n := ⟨z3, n0, n1⟩
  obtain ⟨q, vk, vt, vd⟩ := lk_K h hl
  have yes : lnV (vv m (vw m 0 0 n 13 i) n) (vw m 0 0 n 12 i) (vw m 0 0 n 12 j) (vw m 0 0 n 14 i) (vw m 0 0 n 14 j) → lnt m n i j := fun w => ⟨ti, tj, (Classical.byContradiction z).symm, Classical.byContradiction z2, hl, w⟩
  refine r_lay h hl ha (fun m2 f2 x2 G2 => ?_)
  have ha2 := agr_tr ha x2.2
  have ri2 := (tp_row h ha2 n0 n1 i0 i1).2
  have rj2 := (tp_row h ha2 n0 n1 j0 j1).2
  have rt := G2.2.2.2.2.1
  have r0 := rt.1
  have no : lnt m n i j → lnV (vv m (vw m 0 0 n 13 i) n) (vw m 0 0 n 12 i) (vw m 0 0 n 12 j) (vw m 0 0 n 14 i) (vw m 0 0 n 14 j) := fun w => w.2.2.2.2.2
  unfold lnV at yes no
  rw [G2.1.1, r0.2.2.2.2.2.1, ri2.2.2.1, rj2.2.2.1]
  refine ⟨i0, by omega, r0.1, r0.2.1, fun z4 => hQ 1 m2 (fun _ => rfl) (fun w => absurd (yes (Or.inl z4)) w) f2, fun z4 => ⟨j0, by omega, r0.1, r0.2.1, fun z5 => ⟨i0, by omega, ?_⟩, fun z5 => hQ 1 m2 (fun _ => rfl) (fun w => absurd (yes (Or.inr (Or.inl (by omega)))) w) f2⟩⟩
  refine c_placeOfStop G2 bi.1 bi.2.1 ⟨j0, by omega, ?_⟩
  rw [rj2.2.2.1]
  have si := vt.2.2.2.1 _ bi.1 (by omega)
  have sj := vt.2.2.2.1 _ bj.1 (by omega)
  have n12 := vt.1
  refine c_placeOfStop G2 bj.1 bj.2.1 (c_leastV G2 (by decide) (by decide) si.1 (by omega) sj.1 (by omega) ?_)
  have dg := vD_ge vt 2 (vv m (vw m 0 0 n 13 i) n 8 (vw m 0 0 n 12 i)) (vv m (vw m 0 0 n 13 i) n 8 (vw m 0 0 n 12 j))
  generalize hd : vD (vv m (vw m 0 0 n 13 i) n) 2 (vv m (vw m 0 0 n 13 i) n 8 (vw m 0 0 n 12 i)) (vv m (vw m 0 0 n 13 i) n 8 (vw m 0 0 n 12 j)) = d at *
  rw [ri2.2.2.2.2, rj2.2.2.2.2]
  refine ⟨fun z6 => hQ 1 m2 (fun _ => rfl) (fun w => absurd (yes (by omega)) w) f2, fun z6 => ⟨i0, by omega, j0, by omega, plain_ab bi.2.2.2.2.1 bi.2.2.2.2.2 bj.2.2.2.2.1 bj.2.2.2.2.2 ⟨fun z7 => hQ 0 m2 (fun w => ?_) (fun _ => rfl) f2, fun z7 => hQ 1 m2 (fun _ => rfl) (fun w => absurd (yes ?_) w) f2⟩⟩⟩
  · have w := no w
    split at z7 <;> omega
  · split at z7 <;> omega
abbrev lnFr : List (Int × Int) := [(139, 69), (139, 102), (139, 103), (139, 104)]
theorem ln_up {m m1 : jM} {a b c : Int} (f : frx [190, 191] lnFr m m1) : frx [190, 191] lnFr m (jup (jup (jup m1 139 103 b) 139 104 c) 139 102 a) := frx_upF (frx_upF (frx_upF f (by decide)) (by decide)) (by decide)
theorem r_lend {m m1 : jM} {Q : Int → jM → Prop} {n w : Int} (h : qI m) (ha : agr kpD kpF m m1) (n0 : 0 ≤ n) (n1 : n ≤ m 139 44) (hQ : ∀ m', rfx m1 m' → m' 139 102 = (lnI m n w n.toNat).1 → m' 139 103 = (lnI m n w n.toNat).2.1 → m' 139 104 = (lnI m n w n.toNat).2.2 → Q 0 m') : ML iX11_lend [(2, 139), (0, n), (0, w)] m1 Q := by
  have t := h.1.1.1
  have kp : ∀ m2, frx [190, 191] lnFr m1 m2 → rfx m1 m2 := fun m2 f => rfx_of f (by decide)
  refine sX11_lend ?_
  refine lup (n := n) (I := fun i m2 => 0 ≤ i ∧ i ≤ n ∧ frx [190, 191] lnFr m1 m2 ∧ m2 139 102 = (lnI m n w i.toNat).1 ∧ m2 139 103 = (lnI m n w i.toNat).2.1 ∧ m2 139 104 = (lnI m n w i.toNat).2.2) (G := fun i m2 => GL iX11_lend m2 17 [(2, 139), (0, n), (0, w), (0, i), (9, 0)] [] Q) ?_ ?_ 0 _ ⟨by decide, n0, frx_upF (frx_upF (frx_upF frx_rf (by decide)) (by decide)) (by decide), rfl, rfl, rfl⟩
  · rintro i m2 hi ⟨i0, -, f2, c2, p2, s2⟩ K
    have bd := lnI_bd (m := m) (n := n) (w := w) (by omega) i.toNat
    have e1 : lnI m n w (i + 1).toNat = lnJ m n w i (lnI m n w i.toNat) (n - (i + 1)).toNat := by
      rw [show (i + 1).toNat = i.toNat + 1 by omega]
      simp only [lnI]
      rw [Int.toNat_of_nonneg i0]
    have ha2 := agr_tr ha (kp m2 f2).2
    have r2 := (tp_row h ha2 n0 n1 i0 hi).2
    have no : ¬ tpK m n i → GL iX11_lend m2 17 [(2, 139), (0, n), (0, w), (0, i + 1), (9, 0)] [] Q := fun hn => by
      have e4 := lnJ_no (m := m) (n := n) (w := w) (i := i) (s := lnI m n w i.toNat) hn
      refine K m2 ⟨by omega, by omega, f2, ?_, ?_, ?_⟩
      · rw [e1, e4]; exact c2
      · rw [e1, e4]; exact p2
      · rw [e1, e4]; exact s2
    refine sX11_lend_17 ?_
    rw [r2.1, jw_id (x := i + 1) (by omega) (by omega)]
    refine ⟨fun z => absurd z (by omega), fun _ => ⟨i0, by omega, fun z => no (fun w => z w.1), fun z => r_live h ha2 n0 n1 i0 hi (fun r h1 h0 => ⟨fun z2 => ?_, fun z2 => no (fun w => by have := h1 w.2; omega)⟩)⟩⟩
    have ti : tpK m n i := ⟨Classical.byContradiction z, Classical.byContradiction (fun w => by have := h0 w; omega)⟩
    refine lup (n := n) (I := fun j m3 => i + 1 ≤ j ∧ j ≤ n ∧ frx [190, 191] lnFr m1 m3 ∧ m3 139 102 = (lnJ m n w i (lnI m n w i.toNat) (j - (i + 1)).toNat).1 ∧ m3 139 103 = (lnJ m n w i (lnI m n w i.toNat) (j - (i + 1)).toNat).2.1 ∧ m3 139 104 = (lnJ m n w i (lnI m n w i.toNat) (j - (i + 1)).toNat).2.2) (G := fun j m3 => GL iX11_lend m3 49 [(2, 139), (0, n), (0, w), (0, i), (0, j)] [] Q) ?_ ?_ (i + 1) m2 ⟨Int.le_refl _, by omega, f2, by rw [Int.sub_self]; exact c2, by rw [Int.sub_self]; exact p2, by rw [Int.sub_self]; exact s2⟩
    · rintro j m3 hj ⟨j0, -, f3, c3, p3, s3⟩ K2
      have bj := lnJ_bd (m := m) (n := n) (w := w) (i := i) (s := lnI m n w i.toNat) (j - (i + 1)).toNat
      have e2 : lnJ m n w i (lnI m n w i.toNat) (j + 1 - (i + 1)).toNat = lnS m n w i j (lnJ m n w i (lnI m n w i.toNat) (j - (i + 1)).toNat) := by
        rw [show (j + 1 - (i + 1)).toNat = (j - (i + 1)).toNat + 1 by omega]
        simp only [lnJ]
        rw [show i + 1 + (((j - (i + 1)).toNat : Nat) : Int) = j by omega]
      have ha3 := agr_tr ha (kp m3 f3).2
      have rj := (tp_row h ha3 n0 n1 (show 0 ≤ j by omega) hj).2
      have skip : ∀ m4, ¬ lnt m n i j → frx [190, 191] lnFr m1 m4 → m4 139 102 = m3 139 102 → m4 139 103 = m3 139 103 → m4 139 104 = m3 139 104 → GL iX11_lend m4 49 [(2, 139), (0, n), (0, w), (0, i), (0, j + 1)] [] Q := by
        intro m4 hn f4 a2 a3 a4
        have e3 : lnS m n w i j (lnJ m n w i (lnI m n w i.toNat) (j - (i + 1)).toNat) = lnJ m n w i (lnI m n w i.toNat) (j - (i + 1)).toNat := by
          unfold lnS
          rw [if_neg hn]
        refine K2 m4 ⟨by omega, by omega, f4, ?_, ?_, ?_⟩
        · rw [e2, e3, a2]; exact c3
        · rw [e2, e3, a3]; exact p3
        · rw [e2, e3, a4]; exact s3
      refine sX11_lend_49 ?_
      rw [rj.1, jw_id (x := j + 1) (by omega) (by omega)]
      refine ⟨fun z => absurd z (by omega), fun _ => ⟨by omega, by omega, fun z3 => skip m3 (fun w => z3 w.2.1.1) f3 rfl rfl rfl, fun z3 => r_live h ha3 n0 n1 (by omega) hj (fun r h1 h0 => ⟨fun z4 => skip m3 (fun w => by have := h1 w.2.1.2; omega) f3 rfl rfl rfl, fun z4 => ?_⟩)⟩⟩
      have tj : tpK m n j := ⟨Classical.byContradiction z3, Classical.byContradiction (fun w => z4 (h0 w))⟩
      refine r_isLent h ha3 n0 n1 i0 hi (by omega) hj ti tj (fun r m4 hy hn f4 => ?_)
      have f4' : frx [190, 191] lnFr m1 m4 := frx_tr f3 (frx_mono f4 (by decide) (by decide))
      have a2 : m4 139 102 = m3 139 102 := f4 139 102 (by decide) (by decide)
      have a3 : m4 139 103 = m3 139 103 := f4 139 103 (by decide) (by decide)
      have a4 : m4 139 104 = m3 139 104 := f4 139 104 (by decide) (by decide)
      refine ⟨fun y0 => ?_, fun y0 => skip m4 (fun y => y0 (by have := hy y; omega)) f4' a2 a3 a4⟩
      have yes : lnt m n i j := Classical.byContradiction (fun w => y0 (hn w))
      have e3 : lnS m n w i j (lnJ m n w i (lnI m n w i.toNat) (j - (i + 1)).toNat) = ((lnJ m n w i (lnI m n w i.toNat) (j - (i + 1)).toNat).1 + 1, if (lnJ m n w i (lnI m n w i.toNat) (j - (i + 1)).toNat).1 = w then (i, j) else (lnJ m n w i (lnI m n w i.toNat) (j - (i + 1)).toNat).2) := by
        unfold lnS
        rw [if_pos yes]
      rw [jw_id (x := m4 139 102 + 1) (by omega) (by omega)]
      refine ⟨fun y1 => K2 _ ⟨by omega, by omega, frx_upF f4' (by decide), ?_, ?_, ?_⟩, fun y1 => K2 _ ⟨by omega, by omega, ln_up f4', ?_, ?_, ?_⟩⟩
      · rw [jup_s, e2, e3]; simp only; omega
      · rw [jup_self, if_neg (by decide), e2, e3, if_neg (by omega)]; simp only; omega
      · rw [jup_self, if_neg (by decide), e2, e3, if_neg (by omega)]; simp only; omega
      · rw [jup_s, e2, e3]; simp only; omega
      · rw [jup_self, if_neg (by decide), jup_self, if_neg (by decide), jup_s, e2, e3, if_pos (by omega)]
      · rw [jup_self, if_neg (by decide), jup_s, e2, e3, if_pos (by omega)]
    · rintro j m3 hj ⟨j0, j1, f3, c3, p3, s3⟩
      obtain rfl : j = n := by omega
      refine sX11_lend_49 ⟨fun _ => ?_, fun z => absurd (Int.le_refl _) z⟩
      rw [jw_id (x := i + 1) (by omega) (by omega)]
      refine K m3 ⟨by omega, by omega, f3, ?_, ?_, ?_⟩
      · rw [e1]; exact c3
      · rw [e1]; exact p3
      · rw [e1]; exact s3
  · rintro i m2 hi ⟨i0, i1, f2, c2, p2, s2⟩
    obtain rfl : i = n := by omega
    exact sX11_lend_17 ⟨fun _ => hQ m2 (kp m2 f2) c2 p2 s2, fun z => absurd (Int.le_refl _) z⟩
theorem p_lent {m : jM} {n : Int} (h : qI m) (hs : m 11 5 + 10000 ≤ 20000000) (hI : plI m) (hF : flI m) : ML iX10_lent [(2, 0), (0, n)] m (fun r m1 => ML iX11_lent [(2, 139), (0, n)] m1 (fun r' m2 => r = r' ∧ qOutF 10000 m m2)) := by
  have e : m 13 0 = m 139 44 := h.1.2.1
  have out0 : qOutF 10000 m m := qF_mo (qF_rf h hI hF) (by decide)
  refine sX10_lent (sX10_isKnowledge ⟨fun a => ⟨fun z => absurd rfl z, fun _ => ?_⟩, fun a => ⟨fun b => ⟨fun z => absurd rfl z, fun _ => ?_⟩, fun b => ⟨fun _ => ?_, fun z => absurd (by decide) z⟩⟩⟩)
  · exact sX11_lent (sX11_isKnown ⟨fun _ => ⟨fun z => absurd rfl z, fun _ => ⟨rfl, out0⟩⟩, fun a2 => absurd a a2⟩)
  · exact sX11_lent (sX11_isKnown ⟨fun _ => ⟨fun z => absurd rfl z, fun _ => ⟨rfl, out0⟩⟩, fun _ => ⟨fun _ => ⟨fun z => absurd rfl z, fun _ => ⟨rfl, out0⟩⟩, fun b2 => absurd b (by omega)⟩⟩)
  · have n0 : 0 ≤ n := by omega
    have n1 : n ≤ m 139 44 := by omega
    refine c_findLent h hs hI hF n0 n1 (fun m1 g1 _ => ?_)
    have f1 : m1 139 44 = m 139 44 := agr_at g1.2.1 139 44 (by decide)
    have q1 : qI m1 := qF_qI h g1 hs (by decide)
    refine sX11_lent (sX11_isKnown ⟨fun a2 => absurd a2 a, fun _ => ⟨fun b2 => by omega, fun _ => ⟨fun _ => ?_, fun z => absurd (by decide) z⟩⟩⟩)
    refine r_lend h g1.2.1 n0 n1 (fun m2 x2 c2 _ _ => ?_)
    rw [c2]
    refine ⟨lnI_w _, qF_0 g1 ?_ ?_ x2.2⟩
    · rw [agr_at g1.2.1 139 12 (by decide)]; exact h.2.1.1.2.1
    · exact fun p _ p1 => x2.1 p p1
theorem p_lentAt {m : jM} {n w c : Int} (h : qI m) (hs : m 11 5 + 10000 ≤ 20000000) (hI : plI m) (hF : flI m) : ML iX10_lentAt [(2, 0), (0, n), (0, w), (0, c)] m (fun r m1 => ML iX11_lentAt [(2, 139), (0, n), (0, w), (0, c)] m1 (fun r' m2 => r = r' ∧ qOutF 10000 m m2)) := by
  have e : m 13 0 = m 139 44 := h.1.2.1
  have out0 : qOutF 10000 m m := qF_mo (qF_rf h hI hF) (by decide)
  refine sX10_lentAt (sX10_isKnowledge ⟨fun a => ⟨fun _ => ?_, fun z => absurd rfl z⟩, fun a => ⟨fun b => ⟨fun _ => ?_, fun z => absurd rfl z⟩, fun b => ⟨fun z => absurd z (by decide), fun _ => ⟨fun w0 => ?_, fun w0 => ?_⟩⟩⟩⟩)
  · exact sX11_lentAt (sX11_isKnown ⟨fun _ => ⟨fun _ => ⟨rfl, out0⟩, fun z => absurd rfl z⟩, fun a2 => absurd a a2⟩)
  · exact sX11_lentAt (sX11_isKnown ⟨fun _ => ⟨fun _ => ⟨rfl, out0⟩, fun z => absurd rfl z⟩, fun _ => ⟨fun _ => ⟨fun _ => ⟨rfl, out0⟩, fun z => absurd rfl z⟩, fun b2 => absurd b (by omega)⟩⟩)
  · exact sX11_lentAt (sX11_isKnown ⟨fun a2 => absurd a2 a, fun _ => ⟨fun b2 => by omega, fun _ => ⟨fun z => absurd z (by decide), fun _ => ⟨fun w1 => by omega, fun _ => ⟨rfl, out0⟩⟩⟩⟩⟩)
  · have n0 : 0 ≤ n := by omega
    have n1 : n ≤ m 139 44 := by omega
    refine c_findLent h hs hI hF n0 n1 (fun m1 g1 p1 => ?_)
    have f1 : m1 139 44 = m 139 44 := agr_at g1.2.1 139 44 (by decide)
    have un := lnI_un (m := m) (n := n) (w := w) n.toNat
    have ref : ∀ x : Int, (c = 0 → x = (lnI m n w n.toNat).2.1) → (c ≠ 0 → x = (lnI m n w n.toNat).2.2) → ML iX11_lentAt [(2, 139), (0, n), (0, w), (0, c)] m1 (fun r' m2 => x = r' ∧ qOutF 10000 m m2) := by
      intro x h0 h1
      refine sX11_lentAt (sX11_isKnown ⟨fun a2 => absurd a2 a, fun _ => ⟨fun b2 => by omega, fun _ => ⟨fun z => absurd z (by decide), fun _ => ⟨fun _ => ?_, fun w1 => absurd (by omega) w1⟩⟩⟩⟩)
      refine r_lend h g1.2.1 n0 n1 (fun m2 x2 _ p2 s2 => ?_)
      have fin : qOutF 10000 m m2 := qF_0 g1 (by rw [agr_at g1.2.1 139 12 (by decide)]; exact h.2.1.1.2.1) (fun p _ p1 => x2.1 p p1) x2.2
      exact ⟨fun z => ⟨by rw [p2]; exact h0 z, fin⟩, fun z => ⟨by rw [s2]; exact h1 z, fin⟩⟩
    refine ⟨fun hw => ?_, fun hw => ?_⟩
    · have pp := p1 (by omega) hw
      exact ⟨fun z => ref _ (fun _ => pp.1) (fun y => absurd z y), fun z => ref _ (fun y => absurd y z) (fun _ => pp.2)⟩
    · have e2 := un (by omega)
      exact ref _ (fun _ => by rw [e2]) (fun _ => by rw [e2])

/-! all TELLs of the reference -/
def pFr (m m' : jM) : Prop := (∀ q, q ≠ 139 → m' q = m q) ∧ ∀ i, i ≠ 7 → i ≠ 8 → i ≠ 9 → m' 139 i = m 139 i
theorem rdT_P {k : Int} {m m' : jM} (h : pFr m m') : rdT k m m' := fun q i hq => by
  by_cases e : q = 139
  · subst e
    unfold okT at hq
    exact h.2 i (by omega) (by omega) (by omega)
  · rw [h.1 q e]
theorem c_isSign2 {K S W : Int → Int} {n kk a : Int} {m : jM} {P : Int × Int × Int} {Q : Int → jM → Prop} (hT : rTk K S W n m) (hP : rPs P m) (hn : P.1 ≤ n) (ha : a = sgn kk) (k0 : 24 ≤ kk) (k1 : kk ≤ 33) (h1 : K P.1 = kk → Q 1 m) (h2 : K P.1 ≠ kk → Q 0 m) : ML iX11_isSign [(2, 139), (0, a)] m Q := by
  obtain ⟨p0, p1, -⟩ := id hP
  have tk := hT.1 P.1 p0.1 hn
  have b := hT.2.1.1 P.1 p0.1 hn
  have e := tk_sign tk b.1 b.2 k0 k1
  refine sX11_isSign ?_
  rw [p1, ha]
  exact ⟨p0.1, by omega, fun z => h2 (fun w => z (e.mpr w).1), fun z => ⟨p0.1, by omega, fun z2 => h2 (fun w => z2 (e.mpr w).2), fun z2 => h1 (e.mp ⟨Classical.byContradiction z, Classical.byContradiction z2⟩)⟩⟩
theorem c_wrong2 {K S W : Int → Int} {n a : Int} {m : jM} {P : Int × Int × Int} {Q : Int → jM → Prop} (hT : rTk K S W n m) (hP : rPs P m) (hn : P.1 ≤ n) (h0 : P.2.1 = 0) (ha : a ≠ 0) (hQ : ∀ m', pFr m m' → rPs (flF S a P) m' → Q 0 m') : ML iX11_wrong [(2, 139), (0, a)] m Q := by
  obtain ⟨p0, p1, p2, p3, p4⟩ := id hP
  have tk := (hT.1 P.1 p0.1 hn).1
  have ef : flF S a P = (P.1, a, S P.1) := by unfold flF; rw [if_neg (fun w => w h0)]
  refine sX11_wrong ?_
  rw [p1, tk]
  refine ⟨p0.1, by omega, hQ _ ⟨fun q hq => by rw [jup_ne hq, jup_ne hq], fun i h7 h8 h9 => by rw [jup_j h9, jup_j h8]⟩ ?_⟩
  rw [ef]
  exact ⟨p0, by rw [jup_j (by decide), jup_j (by decide)]; exact p1, by rw [jup_j (by decide), jup_s], fun _ => jup_s, fun w => absurd w ha⟩
theorem c_pass2 {K S W : Int → Int} {n kk : Int} {m : jM} {P : Int × Int × Int} {Q : Int → jM → Prop} (hT : rTk K S W n m) (hP : rPs P m) (hn : P.1 ≤ n) (h0 : P.2.1 = 0) (hk : K P.1 = kk) (hQ1 : ∀ m', pFr m m' → rPs (stq K S kk P) m' → (stq K S kk P).2.1 = 0 → Q 1 m') (hQ0 : ∀ m', pFr m m' → rPs (stq K S kk P) m' → (stq K S kk P).2.1 ≠ 0 → Q 0 m') : ML iX11_pass [(2, 139)] m Q := by
  obtain ⟨p0, p1, p2, p3, p4⟩ := id hP
  refine sX11_pass ⟨fun z => ?_, fun z => ?_⟩
  · have e : stq K S kk P = (P.1 + 1, 0, P.2.2) := by
      unfold stq
      rw [if_neg (fun w => w h0), if_neg (fun w => w hk), if_neg (by omega)]
    rw [p1, jw_id (x := P.1 + 1) (by omega) (by omega)]
    refine hQ1 _ ⟨fun q hq => by rw [jup_ne hq], fun i h7 h8 h9 => by rw [jup_j h7]⟩ ?_ (by rw [e])
    rw [e]
    exact ⟨⟨by show 0 ≤ P.1 + 1; omega, by show P.1 + 1 ≤ 400; omega⟩, jup_s, by rw [jup_j (by decide)]; exact p2.trans h0, fun w => absurd rfl w, fun _ => by rw [jup_j (by decide)]; exact p4 h0⟩
  · have e : stq K S kk P = flF S 2 P := by
      have hf : flF S 2 P = (P.1, 2, S P.1) := by unfold flF; rw [if_neg (by omega)]
      rw [hf]
      unfold stq
      rw [if_neg (fun w => w h0), if_neg (fun w => w hk), if_pos (by omega)]
    rw [e] at hQ0
    exact c_wrong2 hT hP hn h0 (by decide) (fun m' f x => ⟨Or.inl rfl, hQ0 m' f x (flF_ne (by decide))⟩)
/-- how all TELLs of the reference end -/
def pOut (S : Int → Int) (n k : Int) (m : jM) (Y : (Int × Int × Int) × jM) (r : Int) (m' : jM) : Prop := rdT k m m' ∧ rPs Y.1 m' ∧ ((r = 0 ∧ Y.1.2.1 ≠ 0) ∨ (r = 1 ∧ Y.1.2.1 = 0 ∧ rMn Y.2 (cV Y.2) k m' ∧ rgI k Y.2 m' ∧ lwI S Y.1 Y.2 ∧ teI n Y.1 Y.2))
theorem c_parsesLoop {K S W : Int → Int} {n k : Int} {m0 : jM} {Q : Int → jM → Prop} (hv : tV K W n) : ∀ (f : Nat) (X : (Int × Int × Int) × jM) (m : jM), 401 - X.1.1 ≤ f → X.1.2.1 = 0 → rdT k m0 m → rTk K S W n m → rPs X.1 m → rMn X.2 (cV X.2) k m → rgI k X.2 m → teI n X.1 X.2 → lwI S X.1 X.2 → (∀ r m', pOut S n k m0 (tlF K S W f X) r m' → Q r m') → GL iX11_parses m 5 [(2, 139)] [] Q := by
  intro f
  induction f with
  | zero =>
    intro X m hf _ _ _ hP _ _ _ _ _
    have := hP.1
    omega
  | succ f ih =>
    intro X m hf hz hr hT hP hM hR ht hl hQ
    obtain ⟨p0, p1, -⟩ := id hP
    have n4 := hv.1.2
    have hn := ht.1.2
    have tk := hT.1 X.1.1 p0.1 hn
    have b := hT.2.1.1 X.1.1 p0.1 hn
    have s := (tk_sort tk b.1 b.2).2.2.2.2
    simp only [tlF] at hQ
    refine sX11_parses_5 ?_
    rw [p1]
    refine ⟨p0.1, by omega, fun z => ?_, fun z => ?_⟩
    · rw [if_pos (Or.inr (s.mp z))] at hQ
      exact hQ 1 m ⟨hr, hP, Or.inr ⟨rfl, hz, hM, hR, hl, ht⟩⟩
    · have nz : ¬ (X.1.2.1 ≠ 0 ∨ K X.1.1 = 34) := fun w => w.elim (fun w => w hz) (fun w => z (s.mpr w))
      rw [if_neg nz] at hQ
      refine c_tellR (m := m) ⟨rdH_rf, hT, hP, hM⟩ hn hz hv ht hl hR (fun r m' o => ?_)
      obtain ⟨o1, o2, o3⟩ := o
      have r1 := rdT_tr hr o1
      rcases o3 with ⟨e, w, p⟩ | ⟨e, Pi, w, ex, wn, p, g⟩
      · subst e
        refine ⟨fun c => absurd rfl c, fun _ => hQ 0 m' ?_⟩
        rw [tlF_f w]
        exact ⟨r1, p, Or.inl ⟨rfl, w⟩⟩
      · subst e
        refine ⟨fun _ => ?_, fun c => absurd (by decide) c⟩
        refine c_isSign2 (kk := 24) o2 p wn rfl (by decide) (by decide) (fun k24 => ⟨fun _ => ?_, fun c => absurd (by decide) c⟩) (fun k24 => ⟨fun c => absurd rfl c, fun _ => ?_⟩)
        · refine c_pass2 o2 p wn w k24 (fun m2 f2 p2 z2 => ⟨fun _ => ?_, fun c => absurd (by decide) c⟩) (fun m2 f2 p2 z2 => ⟨fun c => absurd rfl c, fun _ => ?_⟩)
          · rw [← ex] at p2 z2
            have g2 := g z2
            have tF := teI_F hv ht hz z2
            have q : ∀ q, q ≠ 139 → m2 q = m' q := f2.1
            refine ih (teF K S W X.1 X.2) m2 (by have := tF.2; omega) z2 (rdT_tr r1 (rdT_P f2)) (rTk_cg o2 (fun q hq => f2.1 q (by omega))) p2 (rMn_cg g2.1 (fun q hq => f2.1 q (by omega)) (fun i hi => f2.2 i (by omega) (by omega) (by omega))) (rgI_cg g2.2 (fun q q0 q1 => f2.1 q (by omega)) cdK_rf) tF.1 (lwI_F hv hT.2.1 ht hl z2) hQ
          · rw [← ex] at p2 z2
            refine hQ 0 m2 ?_
            rw [tlF_f z2]
            exact ⟨rdT_tr r1 (rdT_P f2), p2, Or.inl ⟨rfl, z2⟩⟩
        · have e1 : stq K S 24 Pi = flF S 1 Pi := by
            have hf : flF S 1 Pi = (Pi.1, 1, S Pi.1) := by unfold flF; rw [if_neg (by omega)]
            rw [hf]
            unfold stq
            rw [if_neg (fun c => c w), if_pos k24]
          refine c_wrong2 o2 p wn w (by decide) (fun m2 f2 p2 => ⟨Or.inl rfl, hQ 0 m2 ?_⟩)
          rw [← e1, ← ex] at p2
          have z2 : (teF K S W X.1 X.2).1.2.1 ≠ 0 := by rw [ex, e1]; exact flF_ne (by decide)
          rw [tlF_f z2]
          exact ⟨rdT_tr r1 (rdT_P f2), p2, Or.inl ⟨rfl, z2⟩⟩
theorem c_parses {K S W : Int → Int} {n k : Int} {m V : jM} {P : Int × Int × Int} {Q : Int → jM → Prop} (hv : tV K W n) (e0 : P.1 = 0) (e1 : P.2.1 = 0) (hT : rTk K S W n m) (h8 : m 139 8 = 0) (h9 : m 139 9 = -1) (hM : rMn V (cV V) k m) (hR : rgI k V m) (ht : teI n P V) (hl : lwI S P V) (hQ : ∀ r m', pOut S n k m (tlF K S W 401 (P, V)) r m' → Q r m') : ML iX11_parses [(2, 139)] m Q := by
  refine sX11_parses ?_
  have f : ∀ q, q ≠ 139 → (jup m 139 7 0) q = m q := fun q hq => jup_ne hq
  refine c_parsesLoop hv 401 (P, V) _ (by show 401 - P.1 ≤ _; rw [e0]; decide) e1 (rdT_up rdT_rf (by unfold okT; omega)) (rTk_cg hT (fun q hq => f q (by omega))) ?_ (rMn_cg hM (fun q hq => f q (by omega)) (fun i hi => jup_j (by omega))) (rgI_cg hR (fun q q0 q1 => f q (by omega)) cdK_rf) ht hl hQ
  refine ⟨by rw [e0]; exact ⟨by decide, by decide⟩, by rw [jup_s, e0], by rw [jup_j (by decide), h8, e1], fun w => absurd e1 w, fun _ => by rw [jup_j (by decide)]; exact h9⟩

/-! a TELL of the reference, and all of them -/
theorem lwI_right {K S W : Int → Int} {n : Int} {P : Int × Int × Int} {V : jM} (hk : kI K S n) (ht : teI n P V) (h : lwI S P V) (hle : P.1 < (xfR K S W V P).1.1 ∧ (xfR K S W V P).1.1 ≤ n) (hV : ∀ p, p ≠ 0 → p ≠ 32 → p ≠ 33 → smRight K S W V P p = V p) (hr : V 0 4 < 8) : lwI S (xfR K S W V P).1 (smRight K S W V P) := by
  obtain ⟨nm, lo, vk⟩ := h
  have V0 : ∀ j, j < 20 → (x0R K S V P).2.2 0 j = V 0 j := fun j hj => by unfold x0R; simp only; rw [jup_j (by omega), jup_j (by omega), jup_j (by omega), jup_j (by omega)]
  have ej : ∀ j, j < 16 → j ≠ 4 → smRight K S W V P 0 j = V 0 j := fun j a b => by
    unfold smRight
    rw [jup_j b, jup_ne (by decide)]
    exact (xlp_4 j a).trans (V0 j (by omega))
  have e4 : smRight K S W V P 0 4 = V 0 4 + 1 := jup_s
  have m1 := hk.2 P.1 (xfR K S W V P).1.1 ht.1.1 hle.1 hle.2
  refine ⟨nmI_V nm (ej 0 (by decide) (by decide)) (ej 10 (by decide) (by decide)) (hV 30 (by decide) (by decide) (by decide)) (hV 31 (by decide) (by decide) (by decide)), loF_V (loF_mn lo (by omega)) (ej 11 (by decide) (by decide)) (ej 12 (by decide) (by decide)), fun z => ?_⟩
  rw [ej 11 (by decide) (by decide)] at z
  obtain ⟨g1, g2, g3, g4, g5⟩ := vk z
  refine ⟨?_, fun i i0 i1 => ?_, fun i i0 i1 => ?_, fun i i0 i1 => ?_, fun i i0 i1 => ?_⟩
  · rw [e4, ej 0 (by decide) (by decide), ej 1 (by decide) (by decide), ej 2 (by decide) (by decide), ej 3 (by decide) (by decide)]; omega
  · rw [ej 1 (by decide) (by decide)] at i1
    rw [ej 0 (by decide) (by decide), hV 1 (by decide) (by decide) (by decide), hV 2 (by decide) (by decide) (by decide), hV 3 (by decide) (by decide) (by decide), hV 4 (by decide) (by decide) (by decide), hV 5 (by decide) (by decide) (by decide)]
    exact g2 i i0 i1
  · rw [ej 2 (by decide) (by decide)] at i1
    rw [ej 0 (by decide) (by decide), hV 6 (by decide) (by decide) (by decide), hV 7 (by decide) (by decide) (by decide)]
    exact g3 i i0 i1
  · rw [ej 3 (by decide) (by decide)] at i1
    rw [ej 0 (by decide) (by decide), hV 8 (by decide) (by decide) (by decide)]
    exact g4 i i0 i1
  · rw [hV 9 (by decide) (by decide) (by decide)]
    exact g5 i i0 i1
theorem opd_p {K S W : Int → Int} {X : XR} : ∀ p, p ≠ 0 → p ≠ 32 → (opd K S W X).2.2 p = X.2.2 p := by
  intro p a b
  unfold opd
  split
  · rfl
  · split
    · show jup _ 0 21 0 p = _
      rw [jup_ne a, jup_ne a]
    · split
      · show jup _ 0 20 0 p = _
        unfold cdF
        rw [jup_ne a, jup_ne a, jup_ne a, jup_ne b]
      · split
        · show jup _ 0 20 0 p = _
          unfold cdF
          rw [jup_ne a, jup_ne a, jup_ne a, jup_ne b]
        · rfl
theorem opF_p {k : Int} {V : jM} : ∀ p, p ≠ 0 → opF k V p = V p := by
  intro p a
  unfold opF
  split
  · rw [jup_ne a, jup_ne a, jup_ne a]
  · split
    · rw [jup_ne a, jup_ne a]
    · rw [jup_ne a]
theorem opr_p {K S : Int → Int} {X : XR} : ∀ p, p ≠ 0 → p ≠ 32 → (opr K S X).2.2 p = X.2.2 p := by
  intro p a b
  unfold opr
  split
  · show jup _ 0 23 _ p = _
    rw [jup_ne a]
    exact (stl_cd).2.2.2.1 p a b
  · split
    · split
      · exact (stl_cd).2.2.2.1 p a b
      · show opF _ _ p = _
        rw [opF_p p a]
        exact (stl_cd).2.2.2.1 p a b
    · rfl
theorem xlp_p {K S W : Int → Int} : ∀ {f : Nat} {X : XR}, ∀ p, p ≠ 0 → p ≠ 32 → (xlp K S W f X).2.2 p = X.2.2 p := by
  intro f
  induction f with
  | zero => intro X p _ _; rfl
  | succ f ih =>
    intro X p a b
    simp only [xlp]
    split
    · rfl
    · split
      · split
        · exact opr_p p a b
        · rw [ih p a b]; exact opr_p p a b
      · rw [ih p a b]; exact opd_p p a b
theorem smRight_p {K S W : Int → Int} {V : jM} {P : Int × Int × Int} : ∀ p, p ≠ 0 → p ≠ 32 → p ≠ 33 → smRight K S W V P p = V p := by
  intro p a b d
  unfold smRight
  rw [jup_ne a, jup_ne d]
  have h := xlp_p (K := K) (S := S) (W := W) (f := 401) (X := x0R K S V P) p a b
  unfold xfR
  rw [h]
  unfold x0R
  simp only
  rw [jup_ne a, jup_ne a, jup_ne a, jup_ne a]
theorem lwI_F {K S W : Int → Int} {n : Int} {P : Int × Int × Int} {V : jM} (hv : tV K W n) (hk : kI K S n) (ht : teI n P V) (h : lwI S P V) (hz : (teF K S W P V).1.2.1 = 0) : lwI S (teF K S W P V).1 (teF K S W P V).2 := by
  have hF := teI_F hv ht ?_ hz
  · unfold teF at hz hF ⊢
    by_cases c0 : K P.1 = 0
    · rw [if_pos c0] at hz ⊢; simp only at hz ⊢; rw [if_pos hz]; exact lwI_place hv hk ht h hz
    rw [if_neg c0] at hz hF ⊢
    by_cases c1 : K P.1 = 1
    · rw [if_pos c1] at hz ⊢; simp only at hz ⊢; rw [if_pos hz]; exact lwI_way hv hk ht h hz
    rw [if_neg c1] at hz hF ⊢
    by_cases c2 : K P.1 = 2
    · rw [if_pos c2] at hz ⊢; simp only at hz ⊢; rw [if_pos hz]; exact lwI_school hv hk ht h hz
    rw [if_neg c2] at hz hF ⊢
    by_cases c3 : K P.1 = 3
    · rw [if_pos c3] at hz ⊢; simp only at hz ⊢; rw [if_pos hz]; exact lwI_stop hv hk ht h hz
    rw [if_neg c3] at hz hF ⊢
    by_cases c4 : K P.1 = 4
    · rw [if_pos c4] at hz hF ⊢; simp only at hz hF ⊢
      have z0 : (x0R K S V P).1.2.1 = 0 := by
        apply Classical.byContradiction
        intro w
        have e : xfR K S W V P = x0R K S V P := xlp_f w
        rw [e] at hz
        exact w hz
      exact lwI_right hk ht h ⟨hF.2, hF.1.1.2⟩ smRight_p (rmF_ok (stq_ok (stq_ok z0).1).1).2.1
    rw [if_neg c4] at hz hF ⊢
    by_cases c5 : 5 ≤ K P.1 ∧ K P.1 ≤ 9
    · rw [if_pos c5] at hz ⊢; simp only at hz ⊢; rw [if_pos hz]; exact lwI_rule hv hk ht h (by omega) hz
    rw [if_neg c5] at hz hF ⊢
    by_cases c6 : K P.1 = 10
    · rw [if_pos c6] at hz ⊢; simp only at hz ⊢; rw [if_pos hz]; exact lwI_bus hv hk ht h hz
    rw [if_neg c6] at hz
    exact absurd hz (flF_ne (by decide))
  · -- no fault before
    apply Classical.byContradiction
    intro w
    have f : ∀ b, stq K S b P = P := fun b => stq_f w
    have r : ∀ c b, rmF S c b P = P := fun c b => rmF_f w
    have e : (teF K S W P V).1 = P := by
      unfold teF sxPlace sxWay syWay sxSchool sxStop sxRule sxBus
      split
      · rw [r, f, f, f]
      split
      · rw [r, f, f, f, f, f]
        split
        · rw [f, f]
        · rw [f]
      split
      · rw [r, f, f, f, f, f, f]
      split
      · rw [r, f, f, f, f, f]
      split
      · have e0 : (x0R K S V P).1 = P := by unfold x0R; rw [r, f, f]
        have ex : xfR K S W V P = x0R K S V P := xlp_f (by rw [e0]; exact w)
        rw [ex, e0]
      split
      · rw [f, f, f]
      split
      · rw [f, f, f, f]
      · exact flF_f w
    rw [e] at hz
    exact w hz
/-- what the parser changes, text k's rows alone -/
def okT (k q i : Int) : Prop := (q ≠ 139 ∧ (q < 141 ∨ 173 < q) ∧ q ≠ 189) ∨ (q = 139 ∧ i ≠ 2 ∧ i ≠ 7 ∧ i ≠ 8 ∧ i ≠ 9 ∧ i ≠ 10 ∧ i ≠ 11 ∧ i ≠ 13 ∧ i ≠ 41 ∧ i ≠ 64 ∧ i ≠ 65 ∧ i ≠ 67 ∧ i ≠ 68) ∨ ((q = 147 ∨ q = 148 ∨ q = 154 ∨ q = 157 ∨ q = 159 ∨ q = 162 ∨ q = 165) ∧ i ≠ k) ∨ (149 ≤ q ∧ q ≤ 153 ∧ (i < 24 * k ∨ 24 * k + 24 ≤ i)) ∨ ((q = 155 ∨ q = 156) ∧ (i < 3 * k ∨ 3 * k + 3 ≤ i)) ∨ (q = 158 ∧ (i < 6 * k ∨ 6 * k + 6 ≤ i)) ∨ (q = 146 ∧ (i < 7 * k ∨ 7 * k + 7 ≤ i)) ∨ ((q = 160 ∨ q = 161) ∧ (i < 8 * k ∨ 8 * k + 8 ≤ i)) ∨ ((q = 163 ∨ q = 164) ∧ (i < 500 * k ∨ 500 * k + 500 ≤ i)) ∨ (166 ≤ q ∧ q ≤ 171 ∧ (i < 200 * k ∨ 200 * k + 200 ≤ i)) ∨ q = 145
def rdT (k : Int) (m m' : jM) : Prop := ∀ q i, okT k q i → m' q i = m q i
theorem rdT_rf {k : Int} {m : jM} : rdT k m m := fun _ _ _ => rfl
theorem rdT_tr {k : Int} {m m1 m2 : jM} (h : rdT k m m1) (h2 : rdT k m1 m2) : rdT k m m2 := fun q i hq => (h2 q i hq).trans (h q i hq)
theorem rdT_H {k : Int} {m m' : jM} (h : rdH m m') : rdT k m m' := fun q i hq => h q i (by unfold okT at hq; unfold okH; omega)
theorem rdT_Y {k : Int} {m m' : jM} (h : rdY k m m') : rdT k m m' := fun q i hq => h q i (by unfold okT at hq; unfold okY; omega)
theorem rdT_C {k : Int} {m m' : jM} (h : rdC k 0 0 m m') : rdT k m m' := fun q i hq => h q i (by unfold okT at hq; unfold okC; omega)
theorem rdT_up {k : Int} {m m' : jM} {p i x : Int} (h : rdT k m m') (hp : ¬ okT k p i) : rdT k m (jup m' p i x) := fun q j hq => by
  by_cases e : q = p ∧ j = i
  · rw [e.1, e.2] at hq; exact absurd hq hp
  · show (if q = p ∧ j = i then x else m' q j) = _
    rw [if_neg e]; exact h q j hq
def cV (V : jM) : Int := V 0 0 + V 0 2 + V 0 3
/-- how a TELL of the reference ends -/
def tOut (K S W : Int → Int) (n k : Int) (m : jM) (X : (Int × Int × Int) × jM) (r : Int) (m' : jM) : Prop := rdT k m m' ∧ rTk K S W n m' ∧ ((r = 0 ∧ X.1.2.1 ≠ 0 ∧ rPs X.1 m') ∨ (r = 1 ∧ ∃ Pi : Int × Int × Int, Pi.2.1 = 0 ∧ X.1 = stq K S 24 Pi ∧ Pi.1 ≤ n ∧ rPs Pi m' ∧ (X.1.2.1 = 0 → rMn X.2 (cV X.2) k m' ∧ rgI k X.2 m')))
theorem tOut_of {K S W : Int → Int} {n k c' r : Int} {m m' V Vx : jM} {PF : Int × Int × Int} {X : (Int × Int × Int) × jM} (h : rOut K S W n k m PF Vx c' r m') (hR : rgI k V m) (e : X = (PF, if PF.2.1 = 0 then Vx else V)) (hc : c' = cV Vx) (hd : cdK V Vx) : tOut K S W n k m X r m' := by
  obtain ⟨h1, h2, h3⟩ := h
  subst e
  refine ⟨rdT_Y h1, h2, ?_⟩
  rcases h3 with h3 | ⟨h3, Pi, h4, h5, h6, h7, h8⟩
  · exact Or.inl h3
  · refine Or.inr ⟨h3, Pi, h4, h5, h6, h7, fun z => ?_⟩
    have z : PF.2.1 = 0 := z
    show rMn (if PF.2.1 = 0 then Vx else V) _ k m' ∧ rgI k (if PF.2.1 = 0 then Vx else V) m'
    rw [if_pos z, ← hc]
    exact ⟨h8, rgI_cg hR (fun q a b => by
      funext i
      exact h1 q i (Or.inl (by omega))) hd⟩
theorem wno_tab : ∀ i : Fin 22, wno ((i : Nat) : Int) = ([0, 1, 3, 5, 6, 7, 9, 13, 14, 15, 16, 4, 2, 8, 12, 11, 10, 17, 18, 19, 20, 21] : List Int).getD (i : Nat) 0 := by decide +kernel
theorem wno_t {k : Int} (k0 : 0 ≤ k) (k1 : k < 22) : (k = 0 ∧ wno k = 0) ∨ (k = 1 ∧ wno k = 1) ∨ (k = 2 ∧ wno k = 3) ∨ (k = 3 ∧ wno k = 5) ∨ (k = 4 ∧ wno k = 6) ∨ (k = 5 ∧ wno k = 7) ∨ (k = 6 ∧ wno k = 9) ∨ (k = 7 ∧ wno k = 13) ∨ (k = 8 ∧ wno k = 14) ∨ (k = 9 ∧ wno k = 15) ∨ (k = 10 ∧ wno k = 16) ∨ (11 ≤ k ∧ (wno k = 4 ∨ wno k = 2 ∨ wno k = 8 ∨ wno k = 12 ∨ wno k = 11 ∨ wno k = 10 ∨ 17 ≤ wno k)) := by
  have h : k = 0 ∨ k = 1 ∨ k = 2 ∨ k = 3 ∨ k = 4 ∨ k = 5 ∨ k = 6 ∨ k = 7 ∨ k = 8 ∨ k = 9 ∨ k = 10 ∨ k = 11 ∨ k = 12 ∨ k = 13 ∨ k = 14 ∨ k = 15 ∨ k = 16 ∨ k = 17 ∨ k = 18 ∨ k = 19 ∨ k = 20 ∨ k = 21 := by omega
  rcases h with rfl | rfl | rfl | rfl | rfl | rfl | rfl | rfl | rfl | rfl | rfl | rfl | rfl | rfl | rfl | rfl | rfl | rfl | rfl | rfl | rfl | rfl <;> decide
/-- what the number of a word says of its kind -/
def tlT (k s : Int) : Prop := (s = 0 → k = 0) ∧ (s = 1 → k = 1) ∧ (s = 3 → k = 2) ∧ (s = 5 → k = 3) ∧ (s = 6 → k = 4) ∧ (s = 7 → k = 5) ∧ (s = 9 → k = 6) ∧ (13 ≤ s → s ≤ 15 → 7 ≤ k ∧ k ≤ 9 ∧ s - 11 = k - 5) ∧ (s = 16 → k = 10) ∧ (s ≠ 0 → s ≠ 1 → s ≠ 3 → s ≠ 5 → s ≠ 6 → s ≠ 7 → s ≠ 9 → (s < 13 ∨ 15 < s) → 10 ≤ k) ∧ (s ≠ 16 → 10 ≤ k → 10 < k)
theorem tlT_of {k s : Int} (k0 : 0 ≤ k) (a1 : k < 22 → s = wno k) (a2 : ¬ k < 22 → s = -1) : tlT k s := by
  unfold tlT
  by_cases c : k < 22
  · have t := wno_t k0 c
    have e := a1 c
    clear a1 a2
    rcases t with t | t | t | t | t | t | t | t | t | t | t | t
    all_goals (refine ⟨?_, ?_, ?_, ?_, ?_, ?_, ?_, ?_, ?_, ?_, ?_⟩ <;> omega)
  · have e := a2 c
    refine ⟨?_, ?_, ?_, ?_, ?_, ?_, ?_, ?_, ?_, ?_, ?_⟩ <;> omega
theorem c_tellR {K S W : Int → Int} {n k : Int} {m V : jM} {P : Int × Int × Int} {Q : Int → jM → Prop} (h : rX K S W n k m P V (cV V) m) (hn : P.1 ≤ n) (h0 : P.2.1 = 0) (hv : tV K W n) (ht : teI n P V) (hw : lwI S P V) (hR : rgI k V m) (hQ : ∀ r m', tOut K S W n k m (teF K S W P V) r m' → Q r m') : ML iX11_tell [(2, 139)] m Q := by
  obtain ⟨hI, hl, -⟩ := hw
  have o := ht.2.1
  have o' := o
  unfold smOk at o'
  have hc : cV V + 1 ≤ 24 := by unfold cV; omega
  have p0 := h.2.2.1.1
  have q0 := h.2.2.1.2.1
  have n4 := h.2.1.2.2.2
  have tk := h.2.1.1 P.1 p0.1 hn
  have kr := h.2.1.2.1.1 P.1 p0.1 hn
  have eP : K P.1 = 0 → teF K S W P V = (sxPlace K S V P, if (sxPlace K S V P).2.1 = 0 then smPlace W S P.1 V else V) := fun e => by unfold teF; rw [if_pos e]
  have eW : K P.1 = 1 → teF K S W P V = (sxWay K S V P, if (sxWay K S V P).2.1 = 0 then smWay K W S P.1 V else V) := fun e => by unfold teF; rw [if_neg (by omega), if_pos e]
  have eS : K P.1 = 2 → teF K S W P V = (sxSchool K S V P, if (sxSchool K S V P).2.1 = 0 then smSchool W S P.1 V else V) := fun e => by unfold teF; rw [if_neg (by omega), if_neg (by omega), if_pos e]
  have eT : K P.1 = 3 → teF K S W P V = (sxStop K S V P, if (sxStop K S V P).2.1 = 0 then smStop W S P.1 V else V) := fun e => by unfold teF; rw [if_neg (by omega), if_neg (by omega), if_neg (by omega), if_pos e]
  have eR : K P.1 = 4 → teF K S W P V = ((xfR K S W V P).1, smRight K S W V P) := fun e => by unfold teF; rw [if_neg (by omega), if_neg (by omega), if_neg (by omega), if_neg (by omega), if_pos e]
  have eL : 5 ≤ K P.1 ∧ K P.1 ≤ 9 → teF K S W P V = (sxRule K S (K P.1) P, if (sxRule K S (K P.1) P).2.1 = 0 then smRule W S (K P.1) P.1 V else V) := fun e => by unfold teF; rw [if_neg (by omega), if_neg (by omega), if_neg (by omega), if_neg (by omega), if_neg (by omega), if_pos e]
  have eB : K P.1 = 10 → teF K S W P V = (sxBus K S P, if (sxBus K S P).2.1 = 0 then smBus W P.1 V else V) := fun e => by unfold teF; rw [if_neg (by omega), if_neg (by omega), if_neg (by omega), if_neg (by omega), if_neg (by omega), if_neg (by omega), if_pos e]
  have eN : 10 < K P.1 → teF K S W P V = (flF S 1 P, V) := fun e => by unfold teF; rw [if_neg (by omega), if_neg (by omega), if_neg (by omega), if_neg (by omega), if_neg (by omega), if_neg (by omega), if_neg (by omega)]
  have wrong : 10 < K P.1 → ML iX11_wrong [(2, 139), (0, 1)] m (fun r5 m6 => ((r5 = 0 ∨ r5 = 1) ∧ Q r5 m6)) := fun e =>
    c_wrongR h hn h0 (by decide) (fun m1 x1 => ⟨Or.inl rfl, hQ 0 m1 ⟨rdT_H x1.1, x1.2.1, Or.inl ⟨rfl, by rw [eN e]; exact flF_ne (by decide), by rw [eN e]; exact x1.2.2.1⟩⟩⟩)
  -- a rule
  have rule : ∀ b which low, (b = 5 ∧ which = 0 ∧ low = 1) ∨ (b = 6 ∧ which = 1 ∧ low = 1) ∨ (7 ≤ b ∧ b ≤ 9 ∧ which = b - 5 ∧ low = 0) → K P.1 = b → ML iX11_tellNumber [(2, 139), (0, which), (0, low)] m (fun r m' => (r = 0 ∨ r = 1) ∧ Q r m') := by
    intro b which low hb hk
    have e := eL (by omega)
    rw [hk] at e
    have ew : which = b - 5 := by omega
    refine c_numR (b := b) (B := W (P.1 + 1) = 0 ∧ (b = 5 ∨ b = 6)) h hn h0 hv hl hk (by omega) (by omega) (by omega) (fun a d => by omega) (fun m' y x z => ⟨Or.inr rfl, hQ 1 m' (tOut_of (c' := cV V) (Vx := smRule W S b P.1 V) ⟨y, x.2.1, Or.inr ⟨rfl, _, z, rfl, stq_n hv (stq_n hv hn (by omega)) (by decide), x.2.2.1, ?_⟩⟩ hR e ?_ cdK_rule)⟩) (fun m' x z => ⟨Or.inl rfl, hQ 0 m' (tOut_of (Vx := smRule W S b P.1 V) (c' := cV V) (rOut_0 x rdY_rf z (by unfold sxRule; rw [stq_f z])) hR e ?_ cdK_rule)⟩)
    · have g := x.2.2.2
      rw [ew] at g
      exact g
    · unfold cV smRule
      rw [jup_ne (by decide), wrF_V.1 0 (by decide) (by decide), wrF_V.1 2 (by decide) (by decide), wrF_V.1 3 (by decide) (by decide)]
    · unfold cV smRule
      rw [jup_ne (by decide), wrF_V.1 0 (by decide) (by decide), wrF_V.1 2 (by decide) (by decide), wrF_V.1 3 (by decide) (by decide)]
  have at26 : ∀ s0, (K P.1 < 22 → s0 = wno (K P.1)) → (¬ K P.1 < 22 → s0 = -1) → GL iX11_tell m 26 [(2, 139), (9, 0)] [(0, s0)] Q := by
    intro s0 a1 a2
    have T : tlT (K P.1) s0 := tlT_of kr.1 a1 a2
    clear a1 a2
    have at180 : 10 ≤ K P.1 → GL iX11_tell m 180 [(2, 139), (0, s0)] [] Q := by
      intro k10
      refine sX11_tell_180 ⟨fun z => ⟨fun _ => wrong (T.2.2.2.2.2.2.2.2.2.2 z k10), fun z2 => absurd z z2⟩, fun z => ?_⟩
      have hk : K P.1 = 10 := T.2.2.2.2.2.2.2.2.1 (Classical.byContradiction z)
      have e := eB hk
      have fl : ∀ (t : Int) (V : jM), wrF S False t V = V := fun t V => by unfold wrF; rw [if_neg id]
      refine c_numR (b := 10) (B := False) h hn h0 hv hl hk (by decide) (by decide) (by decide) (fun a d => ⟨fun w => absurd w id, fun w => by omega⟩) (fun m1 y1 x1 z1 => ⟨fun _ => ?_, fun w => absurd (by decide) w⟩) (fun m1 x1 z1 => ⟨fun w => absurd rfl w, fun _ => ⟨fun w => absurd w z, fun _ => ?_⟩⟩)
      · rw [fl] at x1
        have n1 : (stq K S 23 (stq K S 10 P)).1 ≤ n := stq_n hv (stq_n hv hn (by decide)) (by decide)
        have s2 := tok_at z1
        have s1 := tok_at s2.1
        have e1 : (stq K S 23 (stq K S 10 P)).1 = P.1 + 2 := by rw [s2.2.2, s1.2.2]; omega
        have m0 := h.2.1.2.1.2 P.1 (P.1 + 2) p0.1 (by omega) (by omega)
        refine c_takesIntR (B := False) x1 n1 z1 (by rw [e1]; exact loF_V (loF_mn hl (by omega)) rfl rfl) (fun a d => ⟨fun w => absurd w id, fun w => by omega⟩) (fun m2 x2 z2 e64 => ⟨fun _ => ?_, fun w => absurd (by decide) w⟩) (fun m2 x2 z2 => ⟨fun w => absurd rfl w, fun _ => ?_⟩)
        · rw [fl] at x2
          rw [e1] at e64
          have d2 := x2.2.2.2.1
          have kb := d2.1.1
          have kb2 := d2.1.2.1
          rw [d2.1.2.2, e64, jw_id (x := 7 * k) (by omega) (by omega), jw_id (x := 7 * k + 6) (by omega) (by omega)]
          refine ⟨by omega, by omega, hQ 1 _ (tOut_of (c' := cV V) (Vx := smBus W P.1 V) ⟨rdY_up (rdY_tr y1 (rdY_H x2.1)) (by unfold okY; omega), rTk_cg x2.2.1 (fun q hq => jup_ne (by omega)), Or.inr ⟨rfl, _, z2, rfl, stq_n hv n1 (by decide), rPs_cg x2.2.2.1 (fun i hi => by rw [jup_ne (by decide)]), ?_⟩⟩ hR e rfl cdK_bus)⟩
          exact rMn_9 x2.2.2.2 (by decide) (by decide)
        · exact hQ 0 m2 (tOut_of (Vx := smBus W P.1 V) (c' := cV V) (rOut_0 x2 y1 z2 (by unfold sxBus; rw [stq_f z2])) hR e rfl cdK_bus)
      · exact hQ 0 m1 (tOut_of (Vx := smBus W P.1 V) (c' := cV V) (rOut_0 x1 rdY_rf z1 (by unfold sxBus; rw [stq_f z1, stq_f z1])) hR e rfl cdK_bus)
    refine sX11_tell_26 ⟨fun n0 => ⟨fun n1 => ⟨fun n3 => ⟨fun n5 => ⟨fun n6 => ⟨fun n7 => ⟨fun n9 => ⟨fun l13 => at180 (T.2.2.2.2.2.2.2.2.2.1 n0 n1 n3 n5 n6 n7 n9 (Or.inl l13)), fun l13 => ⟨fun g15 => at180 (T.2.2.2.2.2.2.2.2.2.1 n0 n1 n3 n5 n6 n7 n9 (Or.inr g15)), fun g15 => ?_⟩⟩, fun n9 => rule 6 1 1 (Or.inr (Or.inl ⟨rfl, rfl, rfl⟩)) (T.2.2.2.2.2.2.1 (Classical.byContradiction n9))⟩, fun n7 => rule 5 0 1 (Or.inl ⟨rfl, rfl, rfl⟩) (T.2.2.2.2.2.1 (Classical.byContradiction n7))⟩, fun n6 => ?_⟩, fun n5 => ?_⟩, fun n3 => ?_⟩, fun n1 => ?_⟩, fun n0 => ?_⟩
    · have b := T.2.2.2.2.2.2.2.1 (Int.not_lt.mp l13) (Int.not_lt.mp g15)
      rw [jw_id (x := s0 - 11) (by omega) (by omega)]
      exact rule (K P.1) (s0 - 11) 0 (Or.inr (Or.inr ⟨b.1, b.2.1, b.2.2, rfl⟩)) rfl
    · have hk : K P.1 = 4 := T.2.2.2.2.1 (Classical.byContradiction n6)
      have e := eR hk
      refine c_rightR h hn h0 hv o ht.2.2.2 hR hk (fun m' a b d f => ⟨Or.inl rfl, hQ 0 m' ⟨rdT_C a, b, Or.inl ⟨rfl, by rw [e]; exact d, by rw [e]; exact f⟩⟩⟩) (fun Pe m1 m' a a2 b d f g i j => ⟨Or.inr rfl, hQ 1 m' ⟨?_, b, Or.inr ⟨rfl, Pe, f, by rw [e]; exact d, g, i, fun w => ?_⟩⟩⟩)
      · intro q i hq
        have kb := h.2.2.2.1.1.1
        have r4 := ht.2.1.2.2.2.2.2.2.2.2.1
        have o8 : V 0 4 < 8 ∨ V 0 4 = 8 := by omega
        rcases o8 with o8 | o8
        · rw [a2 q i (by unfold okT at hq; omega) (by unfold okT at hq; omega)]
          exact rdT_C a q i hq
        · -- no room: not reached
          have rm : rmF S (V 0 4) 8 P = flF S 2 P := by unfold rmF; rw [if_neg (by omega)]
          have ne : (flF S 2 P).2.1 ≠ 0 := flF_ne (by decide)
          have e0 : (x0R K S V P).1 = flF S 2 P := by unfold x0R; rw [rm, stq_f ne, stq_f ne]
          have ex : xfR K S W V P = x0R K S V P := xlp_f (by rw [e0]; exact ne)
          rw [ex, e0] at d
          have e2 : (flF S 2 P).2.1 = 2 := by unfold flF; rw [if_neg (fun w => w h0)]
          rw [d] at e2
          unfold stq at e2
          rw [if_neg (fun w => w f)] at e2
          split at e2
          · exact absurd e2 (by show ¬ (1 : Int) = 2; decide)
          · split at e2
            · rename_i c1 c2
              have e3 : (flF S 2 P).1 = P.1 := by unfold flF; rw [if_neg (fun w => w h0)]
              rw [d] at e3
              unfold stq at e3
              rw [if_neg (fun w => w f), if_neg c1, if_pos c2] at e3
              have e3 : Pe.1 = P.1 := e3
              have k1 : K Pe.1 = 24 := Classical.byContradiction c1
              rw [e3, hk] at k1
              exact absurd k1 (by decide)
            · exact absurd e2 (by show ¬ (0 : Int) = 2; decide)
      · rw [e] at w ⊢
        have r := j w
        refine ⟨?_, r.2⟩
        have V0 : ∀ j, j < 20 → (x0R K S V P).2.2 0 j = V 0 j := fun j hj => by unfold x0R; simp only; rw [jup_j (by omega), jup_j (by omega), jup_j (by omega), jup_j (by omega)]
        have ej : ∀ j, j < 16 → j ≠ 4 → smRight K S W V P 0 j = V 0 j := fun j a b => by
          unfold smRight
          rw [jup_j b, jup_ne (by decide)]
          exact (xlp_4 j a).trans (V0 j (by omega))
        have ec : cV (smRight K S W V P) = cV V := by unfold cV; rw [ej 0 (by decide) (by decide), ej 2 (by decide) (by decide), ej 3 (by decide) (by decide)]
        show rMn (smRight K S W V P) (cV (smRight K S W V P)) k m'
        rw [ec]
        exact r.1
    · have hk : K P.1 = 3 := T.2.2.2.1 (Classical.byContradiction n5)
      refine c_stopR h hn h0 hv o hc hI hl hk (fun r m' a => ⟨by rcases a.2.2 with w | w; exact Or.inl w.1; exact Or.inr w.1, hQ r m' (tOut_of a hR (eT hk) ?_ cdK_stop)⟩)
      have c1 : ∀ j, j ≠ 3 → j ≠ 10 → j ≠ 11 → j ≠ 12 → smStop W S P.1 V 0 j = V 0 j := fun j a b d e => by
        unfold smStop adT
        rw [jup_j a, jup_ne (by decide), smSc1_V.1 j b d e]
      have c3 : smStop W S P.1 V 0 3 = V 0 3 + 1 := by
        unfold smStop adT
        rw [jup_s, smSc1_V.1 3 (by decide) (by decide) (by decide)]
      unfold cV
      rw [c3, c1 0 (by decide) (by decide) (by decide) (by decide), c1 2 (by decide) (by decide) (by decide) (by decide)]
      omega
    · have hk : K P.1 = 2 := T.2.2.1 (Classical.byContradiction n3)
      refine c_schoolR h hn h0 hv o hc hI hl hk (fun r m' a => ⟨by rcases a.2.2 with w | w; exact Or.inl w.1; exact Or.inr w.1, hQ r m' (tOut_of a hR (eS hk) ?_ cdK_school)⟩)
      have c1 : ∀ j, j ≠ 2 → j ≠ 10 → j ≠ 11 → j ≠ 12 → smSchool W S P.1 V 0 j = V 0 j := fun j a b d e => by
        unfold smSchool adS
        rw [jup_j a, jup_ne (by decide), jup_ne (by decide), wrF_V.1 j d e, smSc1_V.1 j b d e]
      have c3 : smSchool W S P.1 V 0 2 = V 0 2 + 1 := by
        unfold smSchool adS
        rw [jup_s, wrF_V.1 2 (by decide) (by decide), smSc1_V.1 2 (by decide) (by decide) (by decide)]
      unfold cV
      rw [c3, c1 0 (by decide) (by decide) (by decide) (by decide), c1 3 (by decide) (by decide) (by decide) (by decide)]
      omega
    · have hk : K P.1 = 1 := T.2.1 (Classical.byContradiction n1)
      refine c_wayR h hn h0 hv o hI hl hk (fun r m' a => ⟨by rcases a.2.2 with w | w; exact Or.inl w.1; exact Or.inr w.1, hQ r m' (tOut_of a hR (eW hk) ?_ cdK_way)⟩)
      have c1 : ∀ j, j ≠ 1 → j ≠ 11 → j ≠ 12 → smWay K W S P.1 V 0 j = V 0 j := fun j a d e => by
        unfold smWay adW
        rw [jup_j a, jup_ne (by decide), jup_ne (by decide), jup_ne (by decide), jup_ne (by decide), jup_ne (by decide)]
        exact smWay5_0 j d e
      unfold cV
      rw [c1 0 (by decide) (by decide) (by decide), c1 2 (by decide) (by decide) (by decide), c1 3 (by decide) (by decide) (by decide)]
    · have hk : K P.1 = 0 := T.1 (Classical.byContradiction n0)
      have g := c_placeR (Q := Q) h hn h0 hv o hc hI hl hk (fun r m' a => hQ r m' (tOut_of a hR (eP hk) ?_ cdK_place))
      · exact g
      · have c1 : ∀ j, j ≠ 0 → j ≠ 10 → j ≠ 11 → j ≠ 12 → smPlace W S P.1 V 0 j = V 0 j := fun j a b d e => by
          unfold smPlace
          rw [jup_j a]
          exact tlN_V.1 j b d e
        have c3 : smPlace W S P.1 V 0 0 = V 0 0 + 1 := jup_s
        unfold cV
        rw [c3, c1 2 (by decide) (by decide) (by decide) (by decide), c1 3 (by decide) (by decide) (by decide) (by decide)]
        omega
  have so := tk_sort tk kr.1 kr.2
  refine sX11_tell ?_
  rw [q0]
  exact ⟨p0.1, by omega, fun z => at26 (-1) (fun w => by omega) (fun _ => rfl), fun z => ⟨p0.1, by omega, at26 _ (fun w => (tk.2.1 kr.1 w).2) (fun w => absurd (so.2.2.2.1.mp (Classical.byContradiction z)) w)⟩⟩

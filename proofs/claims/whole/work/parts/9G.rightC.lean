/-! RIGHT in the class -/
/-- the cond's steps, until a fault or the semicolon -/
noncomputable def xlp (K S Wv : Int → Int) : Nat → XR → XR
  | 0, X => X
  | f + 1, X => if X.1.2.1 ≠ 0 then X else if X.2.2 0 20 = 0 then (if K X.1.1 = 24 then opr K S X else xlp K S Wv f (opr K S X)) else xlp K S Wv f (opd K S Wv X)
theorem xlp_f {K S Wv : Int → Int} {f : Nat} {X : XR} (h : X.1.2.1 ≠ 0) : xlp K S Wv f X = X := by
  cases f with
  | zero => rfl
  | succ f => simp only [xlp]; rw [if_pos h]
theorem c_rightLoop {t n : Int} {K S Wv : Int → Int} {m0 : jM} {Q : Int → jM → Prop} (ht : jTx t) (hV : tV K Wv n) : ∀ (f : Nat) (X : XR) (x2 x3 : Int) (m : jM), x2 ≠ 0 → 401 - X.1.1 ≤ f → 0 ≤ x3 → x3 ≤ X.1.1 → rdR t m0 m → X.1.2.1 = 0 → cPs X.1 m → cRr t K S Wv X.2.1 X.2.2 m → XI n X → (∀ m', rdR t m0 m' → cPs (xlp K S Wv f X).1 m' → ((xlp K S Wv f X).1.2.1 = 0 → cRr t K S Wv (xlp K S Wv f X).2.1 (xlp K S Wv f X).2.2 m') → ML iX8_endRight [(2, t)] m' (fun _ m4 => Q 0 m4)) → GL iX4_readRight m 39 [(2, 1), (2, t), (0, x2), (0, x3)] [] Q := by
  have tr := jTx_rng ht
  intro f
  induction f with
  | zero =>
    intro X x2 x3 m _ hf _ _ _ _ hP _ hI _
    have := hP.1
    omega
  | succ f ih =>
    intro X x2 x3 m hx2 hf x0 x1 hr hz hP hR hI hQ
    have p0 := hP.1
    have i1 := hI.1
    have d0 := wI_d i1
    -- behind a fault, or the end
    have stop : ∀ r x m', rdR t m0 m' → 0 ≤ x → cPs (xlp K S Wv (f + 1) X).1 m' → ((xlp K S Wv (f + 1) X).1.2.1 = 0 → cRr t K S Wv (xlp K S Wv (f + 1) X).2.1 (xlp K S Wv (f + 1) X).2.2 m' ∧ r = 0) → GL iX4_readRight m' 39 [(2, 1), (2, t), (0, r), (0, x)] [] Q := by
      intro r x m' r' xx P' R'
      have go := hQ m' r' P' (fun w => (R' w).1)
      refine sX4_readRight_39 ht ⟨fun _ => go, fun _ => ⟨fun _ => go, fun z => ⟨fun _ => go, fun z2 => ?_⟩⟩⟩
      have : (xlp K S Wv (f + 1) X).1.2.1 = 0 := P'.2.2.1.symm.trans (Classical.byContradiction z2)
      exact absurd (R' this).2 z
    simp only [xlp] at stop hQ
    rw [if_neg (fun w => w hz)] at stop hQ
    have due := hR.2.2.2.2.1
    refine sX4_readRight_39 ht ?_
    rw [hP.2.2.1, due, jw_id (x := x3 + 1) (by omega) (by omega)]
    refine ⟨fun z => absurd z (by omega), fun _ => ⟨fun z => absurd z hx2, fun _ => ⟨fun z => absurd hz z, fun _ => ⟨fun z => ?_, fun z => ?_⟩⟩⟩⟩
    · rw [if_pos z] at stop hQ
      refine c_readOperator ht hR hP hI.2.2.1 hI.2.2.2.1 i1 (fun r m' r' P' R' => ?_)
      by_cases c24 : K X.1.1 = 24
      · rw [if_pos c24] at stop
        exact stop r (x3 + 1) m' (rdR_tr hr r') (by omega) P' (fun w => ⟨(R' w).1, Classical.byContradiction (fun y => (R' w).2.mp y c24)⟩)
      · rw [if_neg c24] at stop hQ
        by_cases w : (opr K S X).1.2.1 = 0
        · have x := XI_opr hV hI z w
          have rr := (R' w).2.mpr c24
          exact ih (opr K S X) r (x3 + 1) m' rr (by rw [x.2.1]; omega) (by omega) (by rw [x.2.1]; omega) (rdR_tr hr r') w P' (R' w).1 x.1 hQ
        · rw [xlp_f w] at stop
          exact stop r (x3 + 1) m' (rdR_tr hr r') (by omega) P' (fun y => absurd y w)
    · rw [if_neg z] at stop hQ
      refine c_readOperand ht hV hI.2.2.2.2.1 hR hP hI.2.2.1 ⟨d0, hI.2.2.2.1⟩ (fun m' r' P' R' => ?_)
      by_cases w : (opd K S Wv X).1.2.1 = 0
      · have x := XI_opd hV hI w
        exact ih (opd K S Wv X) x2 (x3 + 1) m' hx2 (by rw [x.2]; omega) (by omega) (by rw [x.2]; omega) (rdR_tr hr r') w P' (R' w) x.1 hQ
      · rw [xlp_f w] at stop
        exact stop x2 (x3 + 1) m' (rdR_tr hr r') (by omega) P' (fun y => absurd y w)
/-- the machine at a cond's start -/
def x0R (K S : Int → Int) (V : jM) (P : Int × Int × Int) : XR := (stq K S 13 (stq K S 4 (rmF S (V 0 4) 8 P)), [], jup (jup (jup (jup V 0 23 0) 0 20 1) 0 21 1) 0 22 1)
noncomputable def xfR (K S Wv : Int → Int) (V : jM) (P : Int × Int × Int) : XR := xlp K S Wv 401 (x0R K S V P)
/-- RIGHT's meaning for the class: its code and its end -/
noncomputable def smRight (K S Wv : Int → Int) (V : jM) (P : Int × Int × Int) : jM := jup (jup (xfR K S Wv V P).2.2 33 (V 0 4) ((xfR K S Wv V P).2.2 0 16)) 0 4 (V 0 4 + 1)
theorem opd_4 {K S Wv : Int → Int} {X : XR} : ∀ j, j < 16 → (opd K S Wv X).2.2 0 j = X.2.2 0 j := by
  intro j hj
  unfold opd
  split
  · rfl
  · split
    · simp only; rw [jup_j (by omega), jup_j (by omega)]
    · split
      · simp only; rw [jup_j (by omega), jup_j (by omega)]; unfold cdF; rw [jup_j (by omega), jup_ne (by decide)]
      · split
        · simp only; rw [jup_j (by omega), jup_j (by omega)]; unfold cdF; rw [jup_j (by omega), jup_ne (by decide)]
        · rfl
theorem opr_4 {K S : Int → Int} {X : XR} : ∀ j, j < 16 → (opr K S X).2.2 0 j = X.2.2 0 j := by
  intro j hj
  have s := fun s => (stl_cd (s := s) (W := X.2.1) (V := X.2.2)).2.2.1 j (by omega)
  unfold opr
  split
  · simp only; rw [jup_j (by omega)]; exact s 1
  · split
    · split
      · exact s 1
      · simp only
        unfold opF
        split
        · rw [jup_j (by omega), jup_j (by omega), jup_j (by omega)]; exact s _
        · split
          · rw [jup_j (by omega), jup_j (by omega)]; exact s _
          · rw [jup_j (by omega)]; exact s _
    · rfl
theorem xlp_4 {K S Wv : Int → Int} : ∀ {f : Nat} {X : XR}, ∀ j, j < 16 → (xlp K S Wv f X).2.2 0 j = X.2.2 0 j := by
  intro f
  induction f with
  | zero => intro X j _; rfl
  | succ f ih =>
    intro X j hj
    simp only [xlp]
    split
    · rfl
    · split
      · split
        · exact opr_4 j hj
        · rw [ih j hj]; exact opr_4 j hj
      · rw [ih j hj]; exact opd_4 j hj

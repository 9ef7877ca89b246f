theorem teI_F {K S W : Int → Int} {n : Int} {P : Int × Int × Int} {V : jM} (hv : tV K W n) (h : teI n P V) (h0 : P.2.1 = 0) (hz : (teF K S W P V).1.2.1 = 0) : teI n (teF K S W P V).1 (teF K S W P V).2 ∧ P.1 < (teF K S W P V).1.1 := by
  unfold teF at hz ⊢
  by_cases c0 : K P.1 = 0
  · rw [if_pos c0] at hz ⊢; simp only at hz ⊢; rw [if_pos hz]; exact teI_place hv h hz
  rw [if_neg c0] at hz ⊢
  by_cases c1 : K P.1 = 1
  · rw [if_pos c1] at hz ⊢; simp only at hz ⊢; rw [if_pos hz]; exact teI_way hv h hz
  rw [if_neg c1] at hz ⊢
  by_cases c2 : K P.1 = 2
  · rw [if_pos c2] at hz ⊢; simp only at hz ⊢; rw [if_pos hz]; exact teI_school hv h hz
  rw [if_neg c2] at hz ⊢
  by_cases c3 : K P.1 = 3
  · rw [if_pos c3] at hz ⊢; simp only at hz ⊢; rw [if_pos hz]; exact teI_stop hv h hz
  rw [if_neg c3] at hz ⊢
  by_cases c4 : K P.1 = 4
  · rw [if_pos c4] at hz ⊢; simp only at hz ⊢; exact teI_right hv h hz
  rw [if_neg c4] at hz ⊢
  by_cases c5 : 5 ≤ K P.1 ∧ K P.1 ≤ 9
  · rw [if_pos c5] at hz ⊢; simp only at hz ⊢; rw [if_pos hz]; exact teI_rule hv h (by omega) hz
  rw [if_neg c5] at hz ⊢
  by_cases c6 : K P.1 = 10
  · rw [if_pos c6] at hz ⊢; simp only at hz ⊢; rw [if_pos hz]; exact teI_bus hv h hz
  rw [if_neg c6] at hz
  exact absurd hz (flF_ne (by decide))
/-- the TELLs, until a fault or the end -/
noncomputable def tlF (K S W : Int → Int) : Nat → (Int × Int × Int) × jM → (Int × Int × Int) × jM
  | 0, X => X
  | f + 1, X => if X.1.2.1 ≠ 0 ∨ K X.1.1 = 34 then X else tlF K S W f (teF K S W X.1 X.2)
theorem tlF_f {K S W : Int → Int} {f : Nat} {X : (Int × Int × Int) × jM} (h : X.1.2.1 ≠ 0) : tlF K S W f X = X := by
  cases f with
  | zero => rfl
  | succ f => simp only [tlF]; rw [if_pos (Or.inl h)]
theorem c_tapeLoop {t n : Int} {K S Wv : Int → Int} {m0 : jM} {Q : Int → jM → Prop} (ht : jTx t) (hV : tV K Wv n) : ∀ (f : Nat) (X : (Int × Int × Int) × jM) (x2 : Int) (m : jM), 401 - X.1.1 ≤ f → 0 ≤ x2 → x2 ≤ X.1.1 → rdA t m0 m → X.1.2.1 = 0 → cPs X.1 m → cTk K S Wv m → cMn X.2 t m → cCd X.2 t m → teI n X.1 X.2 → (∀ m', rdA t m0 m' → cPs (tlF K S Wv f X).1 m' → ((tlF K S Wv f X).1.2.1 = 0 → cTk K S Wv m' ∧ cMn (tlF K S Wv f X).2 t m' ∧ cCd (tlF K S Wv f X).2 t m') → (((m' 1 0) ≠ 0 → Q 0 m') ∧ (¬ ((m' 1 0) ≠ 0) → Q 0 (jup (jup m' 1 0 (m' 1 4)) 1 1 (m' 1 5))))) → GL iX4_readTape m 33 [(2, 1), (2, t), (0, x2)] [] Q := by
  have tr := jTx_rng ht
  have n4 := hV.1.2
  intro f
  induction f with
  | zero =>
    intro X x2 m hf _ _ _ _ hP _ _ _ _ _
    have := hP.1
    omega
  | succ f ih =>
    intro X x2 m hf x0 x1 hr hz hP hT hS hC hI hQ
    have p0 := hP.1
    have kd : m 4 (m 1 3) = K X.1.1 := by rw [hP.2.1, hT.1]
    have e0 : m 1 0 = 0 := hP.2.2.1.trans hz
    refine sX4_readTape_33 ht ?_
    simp only [tlF] at hQ
    rw [jw_id (x := x2 + 1) (by omega) (by omega)]
    refine ⟨fun z => absurd z (by omega), fun _ => ⟨fun z => absurd e0 z, fun _ => sX4_kindAhead ⟨by rw [hP.2.1]; exact p0.1, by rw [hP.2.1]; omega, ?_⟩⟩⟩
    rw [kd]
    refine ⟨fun z => ?_, fun z => ?_⟩
    · rw [if_pos (Or.inr z)] at hQ
      exact hQ m hr hP (fun _ => ⟨hT, hS, hC⟩)
    · have nz : ¬ (X.1.2.1 ≠ 0 ∨ K X.1.1 = 34) := fun w => w.elim (fun w => w hz) z
      rw [if_neg nz] at hQ
      refine c_readTell ht hV hI.1.2 hT hP hS hC hI.2.1 hI.2.2.2 (fun m' r' P' R' => ?_)
      by_cases w : (teF K S Wv X.1 X.2).1.2.1 = 0
      · have x := teI_F hV hI hz w
        have g := R' w
        exact ih (teF K S Wv X.1 X.2) (x2 + 1) m' (by have := x.2; omega) (by omega) (by have := x.2; omega) (rdA_tr hr r') w P' g.1 g.2.1 g.2.2 x.1 hQ
      · rw [tlF_f w] at hQ
        have q := hQ m' (rdA_tr hr r') P' (fun y => absurd y w)
        have nz' : m' 1 0 ≠ 0 := by rw [P'.2.2.1]; exact w
        exact sX4_readTape_33 ht ⟨fun _ => q, fun _ => ⟨fun _ => q, fun y => absurd nz' y⟩⟩
